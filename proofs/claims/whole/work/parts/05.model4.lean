section G_05_model4
variable {p : Program} {l : Launch} {e : Env} {s : State} {m : MethodId} {args : Array Value} {below : List Frame} {meth : Method} {c : Code} {D : va_G} {cI cA : ClassId} {ad : Nat → Nat} {A : Nat → Prop}
abbrev wxX5_seating : List Cond := Cond.code yX5_seating cX5_seating 8 (some .int) :: wsL_law
def fX5_seating_130 (K58 : hg_W → Int → Int → Int → Int → Int → Option (hg_W × Int))  (w : hg_W) (x1 : Int) (x2 : Int) (x3 : Int) (x4 : Int) (x5 : Int) : Option (hg_W × Int) :=
  K58 w x1 x2 x3 x4 (x5 + 1)
def fX5_seating_128 (K58 : hg_W → Int → Int → Int → Int → Int → Option (hg_W × Int))  (w : hg_W) (x1 : Int) (x2 : Int) (x3 : Int) (x5 : Int) (s0 : Int) : Option (hg_W × Int) :=
  fX5_seating_130 K58 w x1 x2 x3 s0 x5
def fX5_seating_115 (K58 : hg_W → Int → Int → Int → Int → Int → Option (hg_W × Int))  (w : hg_W) (x1 : Int) (x2 : Int) (x4 : Int) (x5 : Int) (x6 : Int) (x7 : Int) (s0 : Int) : Option (hg_W × Int) :=
  if wr x7 = 0 then
    (
      fX5_seating_128 K58 w x1 x2 s0 x5 x4
    )
  else
    fX5_seating_128 K58 w x1 x2 s0 x5 x6
def fX5_seating_100 (K58 : hg_W → Int → Int → Int → Int → Int → Option (hg_W × Int))  (w : hg_W) (x1 : Int) (x2 : Int) (x3 : Int) (x4 : Int) (x5 : Int) (x6 : Int) (s0 : Int) : Option (hg_W × Int) :=
  if wr s0 = 0 then
    (
      fX5_seating_115 K58 w x1 x2 x4 x5 x6 s0 x3
    )
  else
    fX5_seating_115 K58 w x1 x2 x4 x5 x6 s0 (w 0 33)
def fX5_seating_95 (K58 : hg_W → Int → Int → Int → Int → Int → Option (hg_W × Int))  (w : hg_W) (x1 : Int) (x2 : Int) (x3 : Int) (x4 : Int) (x5 : Int) (x6 : Int) : Option (hg_W × Int) :=
  fX5_seating_100 K58 w x1 x2 x3 x4 x5 x6 1
def fX5_seating_58   : Nat → hg_W → Int → Int → Int → Int → Int → Option (hg_W × Int)
  | 0, _, _, _, _, _, _ => none
  | n + 1, w, x1, x2, x3, x4, x5 =>
    if wr x2 ≤ wr x5 then
      (
        if wr x1 = 0 then
          (
            some (w, wr x3)
          )
        else
          some (w, wr x4)
      )
    else
      hg_bd (fX5_isOrder w x5) fun w1 v2 =>
      if wr v2 = 0 then
        (
          fX5_seating_130 (fX5_seating_58 n) w1 x1 x2 x3 x4 x5
        )
      else
        hg_bd (fX5_differBy w1) fun w4 v5 =>
        hg_bd (fX5_lays w4) fun w7 _ =>
        if wr x3 = wr (-1) then
          (
            fX5_seating_95 (fX5_seating_58 n) w7 x1 x2 x3 x4 x5 v5
          )
        else
          if wr x4 ≤ wr v5 then
            (
              fX5_seating_100 (fX5_seating_58 n) w7 x1 x2 x3 x4 x5 v5 0
            )
          else
            fX5_seating_95 (fX5_seating_58 n) w7 x1 x2 x3 x4 x5 v5
def fX5_seating_25   : Nat → hg_W → Int → Int → Int → Option (hg_W × Int)
  | 0, _, _, _, _ => none
  | n + 1, w, x1, x2, x3 =>
    if wr (w 0 0) ≤ wr x3 then
      (
        hg_bd (fX5_keeps w) fun w1 _ =>
        fX5_seating_58 hg_F w1 x1 x2 (-1) 0 0
      )
    else
      fX5_seating_25 n w x1 (x2 * (w 0 0)) (x3 + 1)
def fX5_seating (w : hg_W) (a1 : Int) : Option (hg_W × Int) :=
  hg_bd (fX5_in w a1 0 1) fun w1 v2 =>
  if wr v2 = 0 then
    (
      some (w1, wr (-2))
    )
  else
    if wr (w1 0 0) = 0 then
      (
        some (w1, wr 0)
      )
    else
      fX5_seating_25 hg_F w1 a1 1 0
set_option maxHeartbeats 4000000 in
set_option maxRecDepth 100000 in
abbrev rmX5_seating : Room := { frames := 7, cells := 0, slots := 0, locals := 169 }
set_option maxHeartbeats 4000000 in
set_option maxRecDepth 100000 in
theorem rX5_seating_130 (B : hg_B p s m args meth c cX5_seating RX5 wsL_law 8 D cI cA ad 1 A) (hr : meth.sig.returnType = (some .int)) {w1 : hg_W} {r1 : Int} {K58 : hg_W → Int → Int → Int → Int → Int → Option (hg_W × Int)} (hK58 : ∀ (w : hg_W) (x1 : Int) (x2 : Int) (x3 : Int) (x4 : Int) (x5 : Int), K58 w x1 x2 x3 x4 x5 = some (w1, r1) → hg_At p l e (rmX5_seating) s m args below meth c D cI cA ad 1 A (MQ below (hg_Qi D cI cA ad 1 A w1 r1) args s 0 0 A) 8 w [(0, .ref (ad 0)), (1, .int (hg_I x1)), (2, .int (hg_I x2)), (3, .int (hg_I x3)), (4, .int (hg_I x4)), (5, .int (hg_I x5))] 58 []) : ∀ (w : hg_W) (x1 : Int) (x2 : Int) (x3 : Int) (x4 : Int) (x5 : Int), fX5_seating_130 K58 w x1 x2 x3 x4 x5 = some (w1, r1) → hg_At p l e (rmX5_seating) s m args below meth c D cI cA ad 1 A (MQ below (hg_Qi D cI cA ad 1 A w1 r1) args s 0 0 A) 8 w [(0, .ref (ad 0)), (1, .int (hg_I x1)), (2, .int (hg_I x2)), (3, .int (hg_I x3)), (4, .int (hg_I x4)), (5, .int (hg_I x5))] 130 [] := by
  intro w x1 x2 x3 x4 x5 h
  unfold fX5_seating_130 at h
  refine z_iinc B 5 [(5, .int (hg_I (x5 + 1))), (0, .ref (ad 0)), (1, .int (hg_I x1)), (2, .int (hg_I x2)), (3, .int (hg_I x3)), (4, .int (hg_I x4))] dX5_seating_130 rfl (by decide) rfl ?_
  refine z_goto (tgt := 58) B dX5_seating_133 (by decide) ?_
  refine z_lv (lv' := [(0, .ref (ad 0)), (1, .int (hg_I x1)), (2, .int (hg_I x2)), (3, .int (hg_I x3)), (4, .int (hg_I x4)), (5, .int (hg_I (x5 + 1)))]) B [1, 2, 3, 4, 5, 0] rfl ?_
  exact hK58 _ _ _ _ _ _ h
set_option maxHeartbeats 4000000 in
set_option maxRecDepth 100000 in
theorem rX5_seating_128 (B : hg_B p s m args meth c cX5_seating RX5 wsL_law 8 D cI cA ad 1 A) (hr : meth.sig.returnType = (some .int)) {w1 : hg_W} {r1 : Int} {K58 : hg_W → Int → Int → Int → Int → Int → Option (hg_W × Int)} (hK58 : ∀ (w : hg_W) (x1 : Int) (x2 : Int) (x3 : Int) (x4 : Int) (x5 : Int), K58 w x1 x2 x3 x4 x5 = some (w1, r1) → hg_At p l e (rmX5_seating) s m args below meth c D cI cA ad 1 A (MQ below (hg_Qi D cI cA ad 1 A w1 r1) args s 0 0 A) 8 w [(0, .ref (ad 0)), (1, .int (hg_I x1)), (2, .int (hg_I x2)), (3, .int (hg_I x3)), (4, .int (hg_I x4)), (5, .int (hg_I x5))] 58 []) : ∀ (w : hg_W) (x1 : Int) (x2 : Int) (x3 : Int) (x5 : Int) (s0 : Int), fX5_seating_128 K58 w x1 x2 x3 x5 s0 = some (w1, r1) → hg_At p l e (rmX5_seating) s m args below meth c D cI cA ad 1 A (MQ below (hg_Qi D cI cA ad 1 A w1 r1) args s 0 0 A) 8 w [(0, .ref (ad 0)), (1, .int (hg_I x1)), (2, .int (hg_I x2)), (3, .int (hg_I x3)), (5, .int (hg_I x5))] 128 [.int (hg_I s0)] := by
  intro w x1 x2 x3 x5 s0 h
  unfold fX5_seating_128 at h
  refine z_istore B [(4, .int (hg_I s0)), (0, .ref (ad 0)), (1, .int (hg_I x1)), (2, .int (hg_I x2)), (3, .int (hg_I x3)), (5, .int (hg_I x5))] dX5_seating_128 (by decide) rfl ?_
  refine z_lv (lv' := [(0, .ref (ad 0)), (1, .int (hg_I x1)), (2, .int (hg_I x2)), (3, .int (hg_I x3)), (4, .int (hg_I s0)), (5, .int (hg_I x5))]) B [1, 2, 3, 4, 0, 5] rfl ?_
  exact rX5_seating_130 B hr hK58 _ _ _ _ _ _ h
set_option maxHeartbeats 4000000 in
set_option maxRecDepth 100000 in
theorem rX5_seating_115 (B : hg_B p s m args meth c cX5_seating RX5 wsL_law 8 D cI cA ad 1 A) (hr : meth.sig.returnType = (some .int)) {w1 : hg_W} {r1 : Int} {K58 : hg_W → Int → Int → Int → Int → Int → Option (hg_W × Int)} (hK58 : ∀ (w : hg_W) (x1 : Int) (x2 : Int) (x3 : Int) (x4 : Int) (x5 : Int), K58 w x1 x2 x3 x4 x5 = some (w1, r1) → hg_At p l e (rmX5_seating) s m args below meth c D cI cA ad 1 A (MQ below (hg_Qi D cI cA ad 1 A w1 r1) args s 0 0 A) 8 w [(0, .ref (ad 0)), (1, .int (hg_I x1)), (2, .int (hg_I x2)), (3, .int (hg_I x3)), (4, .int (hg_I x4)), (5, .int (hg_I x5))] 58 []) : ∀ (w : hg_W) (x1 : Int) (x2 : Int) (x4 : Int) (x5 : Int) (x6 : Int) (x7 : Int) (s0 : Int), fX5_seating_115 K58 w x1 x2 x4 x5 x6 x7 s0 = some (w1, r1) → hg_At p l e (rmX5_seating) s m args below meth c D cI cA ad 1 A (MQ below (hg_Qi D cI cA ad 1 A w1 r1) args s 0 0 A) 8 w [(0, .ref (ad 0)), (1, .int (hg_I x1)), (2, .int (hg_I x2)), (4, .int (hg_I x4)), (5, .int (hg_I x5)), (6, .int (hg_I x6)), (7, .int (hg_I x7))] 115 [.int (hg_I s0)] := by
  intro w x1 x2 x4 x5 x6 x7 s0 h
  unfold fX5_seating_115 at h
  refine z_istore_n B [(3, .int (hg_I s0)), (0, .ref (ad 0)), (1, .int (hg_I x1)), (2, .int (hg_I x2)), (4, .int (hg_I x4)), (5, .int (hg_I x5)), (6, .int (hg_I x6)), (7, .int (hg_I x7))] dX5_seating_115 rfl (by decide) rfl ?_
  refine z_iload B 7 dX5_seating_116 rfl ?_
  refine z_if_eq (tgt := 126) B dX5_seating_118 (by decide) h (fun h => ?_) (fun h => ?_)
  · refine z_iload B 4 dX5_seating_126 rfl ?_
    refine z_lv (lv' := [(0, .ref (ad 0)), (1, .int (hg_I x1)), (2, .int (hg_I x2)), (3, .int (hg_I s0)), (5, .int (hg_I x5))]) B [1, 2, 3, 0, 5] rfl ?_
    exact rX5_seating_128 B hr hK58 _ _ _ _ _ _ h
  · refine z_iload B 6 dX5_seating_121 rfl ?_
    refine z_goto (tgt := 128) B dX5_seating_123 (by decide) ?_
    refine z_lv (lv' := [(0, .ref (ad 0)), (1, .int (hg_I x1)), (2, .int (hg_I x2)), (3, .int (hg_I s0)), (5, .int (hg_I x5))]) B [1, 2, 3, 0, 5] rfl ?_
    exact rX5_seating_128 B hr hK58 _ _ _ _ _ _ h
set_option maxHeartbeats 4000000 in
set_option maxRecDepth 100000 in
theorem rX5_seating_100 (B : hg_B p s m args meth c cX5_seating RX5 wsL_law 8 D cI cA ad 1 A) (hr : meth.sig.returnType = (some .int)) {w1 : hg_W} {r1 : Int} {K58 : hg_W → Int → Int → Int → Int → Int → Option (hg_W × Int)} (hK58 : ∀ (w : hg_W) (x1 : Int) (x2 : Int) (x3 : Int) (x4 : Int) (x5 : Int), K58 w x1 x2 x3 x4 x5 = some (w1, r1) → hg_At p l e (rmX5_seating) s m args below meth c D cI cA ad 1 A (MQ below (hg_Qi D cI cA ad 1 A w1 r1) args s 0 0 A) 8 w [(0, .ref (ad 0)), (1, .int (hg_I x1)), (2, .int (hg_I x2)), (3, .int (hg_I x3)), (4, .int (hg_I x4)), (5, .int (hg_I x5))] 58 []) : ∀ (w : hg_W) (x1 : Int) (x2 : Int) (x3 : Int) (x4 : Int) (x5 : Int) (x6 : Int) (s0 : Int), fX5_seating_100 K58 w x1 x2 x3 x4 x5 x6 s0 = some (w1, r1) → hg_At p l e (rmX5_seating) s m args below meth c D cI cA ad 1 A (MQ below (hg_Qi D cI cA ad 1 A w1 r1) args s 0 0 A) 8 w [(0, .ref (ad 0)), (1, .int (hg_I x1)), (2, .int (hg_I x2)), (3, .int (hg_I x3)), (4, .int (hg_I x4)), (5, .int (hg_I x5)), (6, .int (hg_I x6))] 100 [.int (hg_I s0)] := by
  intro w x1 x2 x3 x4 x5 x6 s0 h
  unfold fX5_seating_100 at h
  refine z_istore B [(7, .int (hg_I s0)), (0, .ref (ad 0)), (1, .int (hg_I x1)), (2, .int (hg_I x2)), (3, .int (hg_I x3)), (4, .int (hg_I x4)), (5, .int (hg_I x5)), (6, .int (hg_I x6))] dX5_seating_100 (by decide) rfl ?_
  refine z_iload B 0 dX5_seating_102 rfl ?_
  refine z_if_eq (tgt := 114) B dX5_seating_104 (by decide) h (fun h => ?_) (fun h => ?_)
  · refine z_iload_n B 4 dX5_seating_114 rfl rfl ?_
    refine z_lv (lv' := [(0, .ref (ad 0)), (1, .int (hg_I x1)), (2, .int (hg_I x2)), (4, .int (hg_I x4)), (5, .int (hg_I x5)), (6, .int (hg_I x6)), (7, .int (hg_I s0))]) B [1, 2, 3, 5, 6, 7, 0] rfl ?_
    exact rX5_seating_115 B hr hK58 _ _ _ _ _ _ _ _ h
  · refine z_aload_n B 1 dX5_seating_107 rfl rfl ?_
    refine z_get5 (v := .int (hg_I (w 0 33))) B 33 dX5_seating_108 inlX5 (by decide) rfl (by decide) (wl_26 16 rfl) rfl rfl ?_
    refine z_goto (tgt := 115) B dX5_seating_111 (by decide) ?_
    refine z_lv (lv' := [(0, .ref (ad 0)), (1, .int (hg_I x1)), (2, .int (hg_I x2)), (4, .int (hg_I x4)), (5, .int (hg_I x5)), (6, .int (hg_I x6)), (7, .int (hg_I s0))]) B [1, 2, 3, 5, 6, 7, 0] rfl ?_
    exact rX5_seating_115 B hr hK58 _ _ _ _ _ _ _ _ h
set_option maxHeartbeats 4000000 in
set_option maxRecDepth 100000 in
theorem rX5_seating_95 (B : hg_B p s m args meth c cX5_seating RX5 wsL_law 8 D cI cA ad 1 A) (hr : meth.sig.returnType = (some .int)) {w1 : hg_W} {r1 : Int} {K58 : hg_W → Int → Int → Int → Int → Int → Option (hg_W × Int)} (hK58 : ∀ (w : hg_W) (x1 : Int) (x2 : Int) (x3 : Int) (x4 : Int) (x5 : Int), K58 w x1 x2 x3 x4 x5 = some (w1, r1) → hg_At p l e (rmX5_seating) s m args below meth c D cI cA ad 1 A (MQ below (hg_Qi D cI cA ad 1 A w1 r1) args s 0 0 A) 8 w [(0, .ref (ad 0)), (1, .int (hg_I x1)), (2, .int (hg_I x2)), (3, .int (hg_I x3)), (4, .int (hg_I x4)), (5, .int (hg_I x5))] 58 []) : ∀ (w : hg_W) (x1 : Int) (x2 : Int) (x3 : Int) (x4 : Int) (x5 : Int) (x6 : Int), fX5_seating_95 K58 w x1 x2 x3 x4 x5 x6 = some (w1, r1) → hg_At p l e (rmX5_seating) s m args below meth c D cI cA ad 1 A (MQ below (hg_Qi D cI cA ad 1 A w1 r1) args s 0 0 A) 8 w [(0, .ref (ad 0)), (1, .int (hg_I x1)), (2, .int (hg_I x2)), (3, .int (hg_I x3)), (4, .int (hg_I x4)), (5, .int (hg_I x5)), (6, .int (hg_I x6))] 95 [] := by
  intro w x1 x2 x3 x4 x5 x6 h
  unfold fX5_seating_95 at h
  refine z_iconst B dX5_seating_95 ?_
  refine z_goto (tgt := 100) B dX5_seating_96 (by decide) ?_
  exact rX5_seating_100 B hr hK58 _ _ _ _ _ _ _ _ h
set_option maxHeartbeats 4000000 in
set_option maxRecDepth 100000 in
theorem rX5_seating_58 (B : hg_B p s m args meth c cX5_seating RX5 wsL_law 8 D cI cA ad 1 A) (hr : meth.sig.returnType = (some .int)) {w1 : hg_W} {r1 : Int} : ∀ (n : Nat), ∀ (w : hg_W) (x1 : Int) (x2 : Int) (x3 : Int) (x4 : Int) (x5 : Int), fX5_seating_58 n w x1 x2 x3 x4 x5 = some (w1, r1) → hg_At p l e (rmX5_seating) s m args below meth c D cI cA ad 1 A (MQ below (hg_Qi D cI cA ad 1 A w1 r1) args s 0 0 A) 8 w [(0, .ref (ad 0)), (1, .int (hg_I x1)), (2, .int (hg_I x2)), (3, .int (hg_I x3)), (4, .int (hg_I x4)), (5, .int (hg_I x5))] 58 [] := by
  intro n
  induction n with
  | zero =>
    intro w x1 x2 x3 x4 x5 h
    cases h
  | succ n ih =>
    intro w x1 x2 x3 x4 x5 h
    simp only [fX5_seating_58] at h
    refine z_iload B 5 dX5_seating_58 rfl ?_
    refine z_iload_n B 2 dX5_seating_60 rfl rfl ?_
    refine z_icmp_ge (tgt := 136) B dX5_seating_61 (by decide) h (fun h => ?_) (fun h => ?_)
    · refine z_iload_n B 1 dX5_seating_136 rfl rfl ?_
      refine z_if_ne (tgt := 144) B dX5_seating_137 (by decide) h (fun h => ?_) (fun h => ?_)
      · refine z_iload B 4 dX5_seating_144 rfl ?_
        exact z_iret B hr dX5_seating_146 h
      · refine z_iload_n B 3 dX5_seating_140 rfl rfl ?_
        refine z_goto (tgt := 146) B dX5_seating_141 (by decide) ?_
        exact z_iret B hr dX5_seating_146 h
    · refine z_aload_n B 0 dX5_seating_64 rfl rfl ?_
      refine z_iload B 5 dX5_seating_65 rfl ?_
      obtain ⟨w1, v2, q3, h⟩ := hg_bd_some h
      refine z_calliV (a := 0) (ci := 5) (N := 37) (T := TX5) (C := RX5) (As := [.int (hg_I x5)]) (n := 1) B dX5_seating_67 (c_X5_isOrder q3) (gl_V (wl_26 17 rfl) (wl_26 18 rfl) (wl_26 19 rfl) (wl_1 5 rfl) (wl_26 20 rfl)) rfl ⟨rfl, rfl⟩ (by decide +kernel) ⟨Nat.le_of_ble_eq_true rfl, Nat.le_of_ble_eq_true rfl⟩ (by decide) rfl (by decide) rfl rfl rfl (Nat.le_of_ble_eq_true rfl) ?_
      refine z_if_eq (tgt := 130) B dX5_seating_70 (by decide) h (fun h => ?_) (fun h => ?_)
      · exact rX5_seating_130 B hr ih _ _ _ _ _ _ h
      · refine z_aload_n B 0 dX5_seating_73 rfl rfl ?_
        obtain ⟨w4, v5, q6, h⟩ := hg_bd_some h
        refine z_calliV (a := 0) (ci := 5) (N := 37) (T := TX5) (C := RX5) (As := []) (n := 0) B dX5_seating_74 (c_X5_differBy q6) (gl_V (wl_26 21 rfl) (wl_26 22 rfl) (wl_26 23 rfl) (wl_1 5 rfl) (wl_27 0 rfl)) rfl ⟨rfl, rfl⟩ (by decide +kernel) ⟨Nat.le_of_ble_eq_true rfl, Nat.le_of_ble_eq_true rfl⟩ (by decide) rfl (by decide) rfl rfl rfl (Nat.le_of_ble_eq_true rfl) ?_
        refine z_istore B [(6, .int (hg_I v5)), (0, .ref (ad 0)), (1, .int (hg_I x1)), (2, .int (hg_I x2)), (3, .int (hg_I x3)), (4, .int (hg_I x4)), (5, .int (hg_I x5))] dX5_seating_77 (by decide) rfl ?_
        refine z_aload_n B 1 dX5_seating_79 rfl rfl ?_
        obtain ⟨w7, v8, q9, h⟩ := hg_bd_some h
        refine z_callvV (a := 0) (ci := 5) (N := 37) (T := TX5) (C := RX5) (As := []) (n := 0) B dX5_seating_80 (c_X5_lays q9) (gl_V (wl_24 2 rfl) (wl_24 3 rfl) (wl_24 4 rfl) (wl_1 5 rfl) (wl_24 5 rfl)) rfl ⟨rfl, rfl⟩ (by decide +kernel) ⟨Nat.le_of_ble_eq_true rfl, Nat.le_of_ble_eq_true rfl⟩ (by decide) rfl (by decide) rfl rfl rfl (Nat.le_of_ble_eq_true rfl) ?_
        refine z_iload_n B 4 dX5_seating_83 rfl rfl ?_
        refine z_iconst B dX5_seating_84 ?_
        refine z_icmp_eq (tgt := 95) B dX5_seating_85 (by decide) h (fun h => ?_) (fun h => ?_)
        · refine z_lv (lv' := [(0, .ref (ad 0)), (1, .int (hg_I x1)), (2, .int (hg_I x2)), (3, .int (hg_I x3)), (4, .int (hg_I x4)), (5, .int (hg_I x5)), (6, .int (hg_I v5))]) B [1, 2, 3, 4, 5, 6, 0] rfl ?_
          exact rX5_seating_95 B hr ih _ _ _ _ _ _ _ h
        · refine z_iload B 0 dX5_seating_88 rfl ?_
          refine z_iload B 5 dX5_seating_90 rfl ?_
          refine z_icmp_ge (tgt := 99) B dX5_seating_92 (by decide) h (fun h => ?_) (fun h => ?_)
          · refine z_iconst B dX5_seating_99 ?_
            refine z_lv (lv' := [(0, .ref (ad 0)), (1, .int (hg_I x1)), (2, .int (hg_I x2)), (3, .int (hg_I x3)), (4, .int (hg_I x4)), (5, .int (hg_I x5)), (6, .int (hg_I v5))]) B [1, 2, 3, 4, 5, 6, 0] rfl ?_
            exact rX5_seating_100 B hr ih _ _ _ _ _ _ _ _ h
          · refine z_lv (lv' := [(0, .ref (ad 0)), (1, .int (hg_I x1)), (2, .int (hg_I x2)), (3, .int (hg_I x3)), (4, .int (hg_I x4)), (5, .int (hg_I x5)), (6, .int (hg_I v5))]) B [1, 2, 3, 4, 5, 6, 0] rfl ?_
            exact rX5_seating_95 B hr ih _ _ _ _ _ _ _ h
set_option maxHeartbeats 4000000 in
set_option maxRecDepth 100000 in
theorem rX5_seating_25 (B : hg_B p s m args meth c cX5_seating RX5 wsL_law 8 D cI cA ad 1 A) (hr : meth.sig.returnType = (some .int)) {w1 : hg_W} {r1 : Int} : ∀ (n : Nat), ∀ (w : hg_W) (x1 : Int) (x2 : Int) (x3 : Int), fX5_seating_25 n w x1 x2 x3 = some (w1, r1) → hg_At p l e (rmX5_seating) s m args below meth c D cI cA ad 1 A (MQ below (hg_Qi D cI cA ad 1 A w1 r1) args s 0 0 A) 8 w [(0, .ref (ad 0)), (1, .int (hg_I x1)), (2, .int (hg_I x2)), (3, .int (hg_I x3))] 25 [] := by
  intro n
  induction n with
  | zero =>
    intro w x1 x2 x3 h
    cases h
  | succ n ih =>
    intro w x1 x2 x3 h
    simp only [fX5_seating_25] at h
    refine z_iload_n B 3 dX5_seating_25 rfl rfl ?_
    refine z_aload_n B 0 dX5_seating_26 rfl rfl ?_
    refine z_get5 (v := .int (hg_I (w 0 0))) B 0 dX5_seating_27 inlX5 (by decide) rfl (by decide) (wl_7 22 rfl) rfl rfl ?_
    refine z_icmp_ge (tgt := 46) B dX5_seating_30 (by decide) h (fun h => ?_) (fun h => ?_)
    · refine z_iconst B dX5_seating_46 ?_
      refine z_istore_n B [(3, .int (hg_I (-1))), (0, .ref (ad 0)), (1, .int (hg_I x1)), (2, .int (hg_I x2))] dX5_seating_47 rfl (by decide) rfl ?_
      refine z_iconst B dX5_seating_48 ?_
      refine z_istore B [(4, .int (hg_I 0)), (3, .int (hg_I (-1))), (0, .ref (ad 0)), (1, .int (hg_I x1)), (2, .int (hg_I x2))] dX5_seating_49 (by decide) rfl ?_
      refine z_aload_n B 2 dX5_seating_51 rfl rfl ?_
      obtain ⟨w1, v2, q3, h⟩ := hg_bd_some h
      refine z_callvV (a := 0) (ci := 5) (N := 37) (T := TX5) (C := RX5) (As := []) (n := 0) B dX5_seating_52 (c_X5_keeps q3) (gl_V (wl_23 18 rfl) (wl_23 19 rfl) (wl_23 20 rfl) (wl_1 5 rfl) (wl_23 21 rfl)) rfl ⟨rfl, rfl⟩ (by decide +kernel) ⟨Nat.le_of_ble_eq_true rfl, Nat.le_of_ble_eq_true rfl⟩ (by decide) rfl (by decide) rfl rfl rfl (Nat.le_of_ble_eq_true rfl) ?_
      refine z_iconst B dX5_seating_55 ?_
      refine z_istore B [(5, .int (hg_I 0)), (4, .int (hg_I 0)), (3, .int (hg_I (-1))), (0, .ref (ad 0)), (1, .int (hg_I x1)), (2, .int (hg_I x2))] dX5_seating_56 (by decide) rfl ?_
      refine z_lv (lv' := [(0, .ref (ad 0)), (1, .int (hg_I x1)), (2, .int (hg_I x2)), (3, .int (hg_I (-1))), (4, .int (hg_I 0)), (5, .int (hg_I 0))]) B [3, 4, 5, 2, 1, 0] rfl ?_
      exact rX5_seating_58 B hr hg_F _ _ _ _ _ _ h
    · refine z_iload_n B 2 dX5_seating_33 rfl rfl ?_
      refine z_aload_n B 0 dX5_seating_34 rfl rfl ?_
      refine z_get5 (v := .int (hg_I (w 0 0))) B 0 dX5_seating_35 inlX5 (by decide) rfl (by decide) (wl_7 22 rfl) rfl rfl ?_
      refine z_imul B dX5_seating_38 ?_
      refine z_istore_n B [(2, .int (hg_I (x2 * (w 0 0)))), (0, .ref (ad 0)), (1, .int (hg_I x1)), (3, .int (hg_I x3))] dX5_seating_39 rfl (by decide) rfl ?_
      refine z_iinc B 3 [(3, .int (hg_I (x3 + 1))), (2, .int (hg_I (x2 * (w 0 0)))), (0, .ref (ad 0)), (1, .int (hg_I x1))] dX5_seating_40 rfl (by decide) rfl ?_
      refine z_goto (tgt := 25) B dX5_seating_43 (by decide) ?_
      refine z_lv (lv' := [(0, .ref (ad 0)), (1, .int (hg_I x1)), (2, .int (hg_I (x2 * (w 0 0)))), (3, .int (hg_I (x3 + 1)))]) B [2, 3, 1, 0] rfl ?_
      exact ih _ _ _ _ h
set_option maxHeartbeats 4000000 in
set_option maxRecDepth 100000 in
theorem rX5_seating_E (B : hg_B p s m args meth c cX5_seating RX5 wsL_law 8 D cI cA ad 1 A) (hr : meth.sig.returnType = (some .int)) {a1 : Int} {w1 : hg_W} {r1 : Int} {w : hg_W} (h : fX5_seating w a1 = some (w1, r1)) : hg_At p l e (rmX5_seating) s m args below meth c D cI cA ad 1 A (MQ below (hg_Qi D cI cA ad 1 A w1 r1) args s 0 0 A) 8 w [(0, .ref (ad 0)), (1, .int (hg_I a1))] 0 [] := by
  unfold fX5_seating at h
  refine z_iload_n B 1 dX5_seating_0 rfl rfl ?_
  refine z_iconst B dX5_seating_1 ?_
  refine z_iconst B dX5_seating_2 ?_
  obtain ⟨w1, v2, q3, h⟩ := hg_bd_some h
  refine z_calliS (As := [.int (hg_I a1), .int (hg_I 0), .int (hg_I 1)]) (n := 3) B dX5_seating_3 (c_X5_in q3) (gl_S (wl_5 14 rfl) (wl_5 15 rfl) (wl_1 5 rfl) (wl_5 16 rfl)) rfl ⟨rfl, rfl⟩ (by decide +kernel) ⟨Nat.le_of_ble_eq_true rfl, Nat.le_of_ble_eq_true rfl⟩ rfl rfl (Nat.le_of_ble_eq_true rfl) ?_
  refine z_if_ne (tgt := 12) B dX5_seating_6 (by decide) h (fun h => ?_) (fun h => ?_)
  · refine z_aload_n B 0 dX5_seating_12 rfl rfl ?_
    refine z_get5 (v := .int (hg_I (w1 0 0))) B 0 dX5_seating_13 inlX5 (by decide) rfl (by decide) (wl_7 22 rfl) rfl rfl ?_
    refine z_if_ne (tgt := 21) B dX5_seating_16 (by decide) h (fun h => ?_) (fun h => ?_)
    · refine z_iconst B dX5_seating_21 ?_
      refine z_istore_n B [(2, .int (hg_I 1)), (0, .ref (ad 0)), (1, .int (hg_I a1))] dX5_seating_22 rfl (by decide) rfl ?_
      refine z_iconst B dX5_seating_23 ?_
      refine z_istore_n B [(3, .int (hg_I 0)), (2, .int (hg_I 1)), (0, .ref (ad 0)), (1, .int (hg_I a1))] dX5_seating_24 rfl (by decide) rfl ?_
      refine z_lv (lv' := [(0, .ref (ad 0)), (1, .int (hg_I a1)), (2, .int (hg_I 1)), (3, .int (hg_I 0))]) B [2, 3, 1, 0] rfl ?_
      exact rX5_seating_25 B hr hg_F _ _ _ _ h
    · refine z_iconst B dX5_seating_19 ?_
      exact z_iret B hr dX5_seating_20 h
  · refine z_bipush B dX5_seating_9 (by decide) ?_
    exact z_iret B hr dX5_seating_11 h
set_option maxHeartbeats 4000000 in
set_option maxRecDepth 100000 in
theorem c_X5_seating {l : Launch} {D : va_G} {cI cA : ClassId} {ad : Nat → Nat} {a1 : Int} {w w1 : hg_W} {r1 : Int} (h : fX5_seating w a1 = some (w1, r1)) : hg_Mi l yX5_seating wxX5_seating rmX5_seating D cI cA ad 1 w [.ref (ad 0), .int (hg_I a1)] w1 r1 := by
  refine z_meti cX5_seating 8 (some .int) (by decide) (Nat.le_of_ble_eq_true rfl) ?_
  intro p e s m args below meth c A B hr
  exact rX5_seating_E B hr h
abbrev wxX5_addsSort : List Cond := Cond.code yX5_addsSort cX5_addsSort 4 none :: wsL_law
def fX5_addsSort_86   : Nat → hg_W → Int → Option (hg_W × Int)
  | 0, _, _ => none
  | n + 1, w, x2 =>
    if wr 1000 ≤ wr x2 then
      (
        some (w, 0)
      )
    else
      (hg_ag 1 w 21 x2).bind fun v1 =>
      (hg_as 1 w 20 x2 v1).bind fun w3 =>
      fX5_addsSort_86 n w3 (x2 + 1)
def fX5_addsSort_78 (K2 : hg_W → Int → Int → Option (hg_W × Int))  (w : hg_W) (x1 : Int) (x2 : Int) : Option (hg_W × Int) :=
  K2 w x1 (x2 + 1)
def fX5_addsSort_18 (K2 : hg_W → Int → Int → Option (hg_W × Int))  : Nat → hg_W → Int → Int → Int → Option (hg_W × Int)
  | 0, _, _, _, _ => none
  | n + 1, w, x1, x2, x3 =>
    (hg_ag 1 w 4 ((2 * x1) + 1)).bind fun v1 =>
    if wr v1 < wr x3 then
      (
        fX5_addsSort_78 K2 w x1 x2
      )
    else
      (hg_ag 1 w 4 (2 * x1)).bind fun v3 =>
      if wr x2 < wr (x3 * v3) then
        (
          fX5_addsSort_78 K2 w x1 x2
        )
      else
        (hg_ag 1 w 21 x2).bind fun v5 =>
        (hg_ag 1 w 4 (2 * x1)).bind fun v7 =>
        (hg_ag 1 w 20 (x2 - (x3 * v7))).bind fun v9 =>
        (hg_as 1 w 21 x2 (v5 + v9)).bind fun w11 =>
        fX5_addsSort_18 K2 n w11 x1 x2 (x3 + 1)
def fX5_addsSort_2   : Nat → hg_W → Int → Int → Option (hg_W × Int)
  | 0, _, _, _ => none
  | n + 1, w, x1, x2 =>
    if wr 1000 ≤ wr x2 then
      (
        fX5_addsSort_86 hg_F w 0
      )
    else
      (hg_as 1 w 21 x2 0).bind fun w1 =>
      fX5_addsSort_18 (fX5_addsSort_2 n) hg_F w1 x1 x2 0
def fX5_addsSort (w : hg_W) (a1 : Int) : Option (hg_W × Int) :=
  fX5_addsSort_2 hg_F w a1 0
set_option maxHeartbeats 4000000 in
set_option maxRecDepth 100000 in
abbrev rmX5_addsSort : Room := { frames := 0, cells := 0, slots := 0, locals := 0 }
set_option maxHeartbeats 4000000 in
set_option maxRecDepth 100000 in
theorem rX5_addsSort_86 (B : hg_B p s m args meth c cX5_addsSort RX5 wsL_law 4 D cI cA ad 1 A) (hr : meth.sig.returnType = none) {w1 : hg_W} {r1 : Int} : ∀ (n : Nat), ∀ (w : hg_W) (x2 : Int), fX5_addsSort_86 n w x2 = some (w1, r1) → hg_At p l e (rmX5_addsSort) s m args below meth c D cI cA ad 1 A (MQ below (hg_Qv D cI cA ad 1 A w1) args s 0 0 A) 4 w [(0, .ref (ad 0)), (2, .int (hg_I x2))] 86 [] := by
  intro n
  induction n with
  | zero =>
    intro w x2 h
    cases h
  | succ n ih =>
    intro w x2 h
    simp only [fX5_addsSort_86] at h
    refine z_iload_n B 1 dX5_addsSort_86 rfl rfl ?_
    refine z_sipush B dX5_addsSort_87 (by decide) ?_
    refine z_icmp_ge (tgt := 111) B dX5_addsSort_90 (by decide) h (fun h => ?_) (fun h => ?_)
    · exact z_vret B hr dX5_addsSort_111 h
    · refine z_aload_n B 0 dX5_addsSort_93 rfl rfl ?_
      refine z_get5 (v := .ref (ad 20)) B 34 dX5_addsSort_94 inlX5 (by decide) rfl (by decide) (wl_4 21 rfl) rfl rfl ?_
      refine z_iload_n B 1 dX5_addsSort_97 rfl rfl ?_
      refine z_aload_n B 0 dX5_addsSort_98 rfl rfl ?_
      refine z_get5 (v := .ref (ad 21)) B 35 dX5_addsSort_99 inlX5 (by decide) rfl (by decide) (wl_4 22 rfl) rfl rfl ?_
      refine z_iload_n B 1 dX5_addsSort_102 rfl rfl ?_
      obtain ⟨v1, q2, h⟩ := Option.bind_eq_some_iff.mp h
      refine z_iald (Or.inr rfl) B dX5_addsSort_103 q2 ?_
      obtain ⟨w3, q4, h⟩ := Option.bind_eq_some_iff.mp h
      refine z_iast (Or.inr rfl) B dX5_addsSort_104 q4 ?_
      refine z_iinc B 1 [(2, .int (hg_I (x2 + 1))), (0, .ref (ad 0))] dX5_addsSort_105 rfl (by decide) rfl ?_
      refine z_goto (tgt := 86) B dX5_addsSort_108 (by decide) ?_
      refine z_lv (lv' := [(0, .ref (ad 0)), (2, .int (hg_I (x2 + 1)))]) B [1, 0] rfl ?_
      exact ih _ _ h
set_option maxHeartbeats 4000000 in
set_option maxRecDepth 100000 in
theorem rX5_addsSort_78 (B : hg_B p s m args meth c cX5_addsSort RX5 wsL_law 4 D cI cA ad 1 A) (hr : meth.sig.returnType = none) {w1 : hg_W} {r1 : Int} {K2 : hg_W → Int → Int → Option (hg_W × Int)} (hK2 : ∀ (w : hg_W) (x1 : Int) (x2 : Int), K2 w x1 x2 = some (w1, r1) → hg_At p l e (rmX5_addsSort) s m args below meth c D cI cA ad 1 A (MQ below (hg_Qv D cI cA ad 1 A w1) args s 0 0 A) 4 w [(0, .ref (ad 0)), (1, .int (hg_I x1)), (2, .int (hg_I x2))] 2 []) : ∀ (w : hg_W) (x1 : Int) (x2 : Int), fX5_addsSort_78 K2 w x1 x2 = some (w1, r1) → hg_At p l e (rmX5_addsSort) s m args below meth c D cI cA ad 1 A (MQ below (hg_Qv D cI cA ad 1 A w1) args s 0 0 A) 4 w [(0, .ref (ad 0)), (1, .int (hg_I x1)), (2, .int (hg_I x2))] 78 [] := by
  intro w x1 x2 h
  unfold fX5_addsSort_78 at h
  refine z_iinc B 2 [(2, .int (hg_I (x2 + 1))), (0, .ref (ad 0)), (1, .int (hg_I x1))] dX5_addsSort_78 rfl (by decide) rfl ?_
  refine z_goto (tgt := 2) B dX5_addsSort_81 (by decide) ?_
  refine z_lv (lv' := [(0, .ref (ad 0)), (1, .int (hg_I x1)), (2, .int (hg_I (x2 + 1)))]) B [1, 2, 0] rfl ?_
  exact hK2 _ _ _ h
set_option maxHeartbeats 4000000 in
set_option maxRecDepth 100000 in
theorem rX5_addsSort_18 (B : hg_B p s m args meth c cX5_addsSort RX5 wsL_law 4 D cI cA ad 1 A) (hr : meth.sig.returnType = none) {w1 : hg_W} {r1 : Int} {K2 : hg_W → Int → Int → Option (hg_W × Int)} (hK2 : ∀ (w : hg_W) (x1 : Int) (x2 : Int), K2 w x1 x2 = some (w1, r1) → hg_At p l e (rmX5_addsSort) s m args below meth c D cI cA ad 1 A (MQ below (hg_Qv D cI cA ad 1 A w1) args s 0 0 A) 4 w [(0, .ref (ad 0)), (1, .int (hg_I x1)), (2, .int (hg_I x2))] 2 []) : ∀ (n : Nat), ∀ (w : hg_W) (x1 : Int) (x2 : Int) (x3 : Int), fX5_addsSort_18 K2 n w x1 x2 x3 = some (w1, r1) → hg_At p l e (rmX5_addsSort) s m args below meth c D cI cA ad 1 A (MQ below (hg_Qv D cI cA ad 1 A w1) args s 0 0 A) 4 w [(0, .ref (ad 0)), (1, .int (hg_I x1)), (2, .int (hg_I x2)), (3, .int (hg_I x3))] 18 [] := by
  intro n
  induction n with
  | zero =>
    intro w x1 x2 x3 h
    cases h
  | succ n ih =>
    intro w x1 x2 x3 h
    simp only [fX5_addsSort_18] at h
    refine z_iload_n B 3 dX5_addsSort_18 rfl rfl ?_
    refine z_aload_n B 0 dX5_addsSort_19 rfl rfl ?_
    refine z_get5 (v := .ref (ad 4)) B 4 dX5_addsSort_20 inlX5 (by decide) rfl (by decide) (wl_4 5 rfl) rfl rfl ?_
    refine z_iconst B dX5_addsSort_23 ?_
    refine z_iload_n B 1 dX5_addsSort_24 rfl rfl ?_
    refine z_imul B dX5_addsSort_25 ?_
    refine z_iconst B dX5_addsSort_26 ?_
    refine z_iadd B dX5_addsSort_27 ?_
    obtain ⟨v1, q2, h⟩ := Option.bind_eq_some_iff.mp h
    refine z_iald (Or.inr rfl) B dX5_addsSort_28 q2 ?_
    refine z_icmp_gt (tgt := 78) B dX5_addsSort_29 (by decide) h (fun h => ?_) (fun h => ?_)
    · refine z_lv (lv' := [(0, .ref (ad 0)), (1, .int (hg_I x1)), (2, .int (hg_I x2))]) B [0, 1, 2] rfl ?_
      exact rX5_addsSort_78 B hr hK2 _ _ _ h
    · refine z_iload_n B 3 dX5_addsSort_32 rfl rfl ?_
      refine z_aload_n B 0 dX5_addsSort_33 rfl rfl ?_
      refine z_get5 (v := .ref (ad 4)) B 4 dX5_addsSort_34 inlX5 (by decide) rfl (by decide) (wl_4 5 rfl) rfl rfl ?_
      refine z_iconst B dX5_addsSort_37 ?_
      refine z_iload_n B 1 dX5_addsSort_38 rfl rfl ?_
      refine z_imul B dX5_addsSort_39 ?_
      obtain ⟨v3, q4, h⟩ := Option.bind_eq_some_iff.mp h
      refine z_iald (Or.inr rfl) B dX5_addsSort_40 q4 ?_
      refine z_imul B dX5_addsSort_41 ?_
      refine z_iload_n B 2 dX5_addsSort_42 rfl rfl ?_
      refine z_icmp_gt (tgt := 78) B dX5_addsSort_43 (by decide) h (fun h => ?_) (fun h => ?_)
      · refine z_lv (lv' := [(0, .ref (ad 0)), (1, .int (hg_I x1)), (2, .int (hg_I x2))]) B [0, 1, 2] rfl ?_
        exact rX5_addsSort_78 B hr hK2 _ _ _ h
      · refine z_aload_n B 0 dX5_addsSort_46 rfl rfl ?_
        refine z_get5 (v := .ref (ad 21)) B 35 dX5_addsSort_47 inlX5 (by decide) rfl (by decide) (wl_4 22 rfl) rfl rfl ?_
        refine z_iload_n B 2 dX5_addsSort_50 rfl rfl ?_
        refine z_dup2 B dX5_addsSort_51 rfl rfl ?_
        obtain ⟨v5, q6, h⟩ := Option.bind_eq_some_iff.mp h
        refine z_iald (Or.inr rfl) B dX5_addsSort_52 q6 ?_
        refine z_aload_n B 0 dX5_addsSort_53 rfl rfl ?_
        refine z_get5 (v := .ref (ad 20)) B 34 dX5_addsSort_54 inlX5 (by decide) rfl (by decide) (wl_4 21 rfl) rfl rfl ?_
        refine z_iload_n B 2 dX5_addsSort_57 rfl rfl ?_
        refine z_iload_n B 3 dX5_addsSort_58 rfl rfl ?_
        refine z_aload_n B 0 dX5_addsSort_59 rfl rfl ?_
        refine z_get5 (v := .ref (ad 4)) B 4 dX5_addsSort_60 inlX5 (by decide) rfl (by decide) (wl_4 5 rfl) rfl rfl ?_
        refine z_iconst B dX5_addsSort_63 ?_
        refine z_iload_n B 1 dX5_addsSort_64 rfl rfl ?_
        refine z_imul B dX5_addsSort_65 ?_
        obtain ⟨v7, q8, h⟩ := Option.bind_eq_some_iff.mp h
        refine z_iald (Or.inr rfl) B dX5_addsSort_66 q8 ?_
        refine z_imul B dX5_addsSort_67 ?_
        refine z_isub B dX5_addsSort_68 ?_
        obtain ⟨v9, q10, h⟩ := Option.bind_eq_some_iff.mp h
        refine z_iald (Or.inr rfl) B dX5_addsSort_69 q10 ?_
        refine z_iadd B dX5_addsSort_70 ?_
        obtain ⟨w11, q12, h⟩ := Option.bind_eq_some_iff.mp h
        refine z_iast (Or.inr rfl) B dX5_addsSort_71 q12 ?_
        refine z_iinc B 3 [(3, .int (hg_I (x3 + 1))), (0, .ref (ad 0)), (1, .int (hg_I x1)), (2, .int (hg_I x2))] dX5_addsSort_72 rfl (by decide) rfl ?_
        refine z_goto (tgt := 18) B dX5_addsSort_75 (by decide) ?_
        refine z_lv (lv' := [(0, .ref (ad 0)), (1, .int (hg_I x1)), (2, .int (hg_I x2)), (3, .int (hg_I (x3 + 1)))]) B [1, 2, 3, 0] rfl ?_
        exact ih _ _ _ _ h
set_option maxHeartbeats 4000000 in
set_option maxRecDepth 100000 in
theorem rX5_addsSort_2 (B : hg_B p s m args meth c cX5_addsSort RX5 wsL_law 4 D cI cA ad 1 A) (hr : meth.sig.returnType = none) {w1 : hg_W} {r1 : Int} : ∀ (n : Nat), ∀ (w : hg_W) (x1 : Int) (x2 : Int), fX5_addsSort_2 n w x1 x2 = some (w1, r1) → hg_At p l e (rmX5_addsSort) s m args below meth c D cI cA ad 1 A (MQ below (hg_Qv D cI cA ad 1 A w1) args s 0 0 A) 4 w [(0, .ref (ad 0)), (1, .int (hg_I x1)), (2, .int (hg_I x2))] 2 [] := by
  intro n
  induction n with
  | zero =>
    intro w x1 x2 h
    cases h
  | succ n ih =>
    intro w x1 x2 h
    simp only [fX5_addsSort_2] at h
    refine z_iload_n B 2 dX5_addsSort_2 rfl rfl ?_
    refine z_sipush B dX5_addsSort_3 (by decide) ?_
    refine z_icmp_ge (tgt := 84) B dX5_addsSort_6 (by decide) h (fun h => ?_) (fun h => ?_)
    · refine z_iconst B dX5_addsSort_84 ?_
      refine z_istore_n B [(2, .int (hg_I 0)), (0, .ref (ad 0)), (1, .int (hg_I x1))] dX5_addsSort_85 rfl (by decide) rfl ?_
      refine z_lv (lv' := [(0, .ref (ad 0)), (2, .int (hg_I 0))]) B [1, 0] rfl ?_
      exact rX5_addsSort_86 B hr hg_F _ _ h
    · refine z_aload_n B 0 dX5_addsSort_9 rfl rfl ?_
      refine z_get5 (v := .ref (ad 21)) B 35 dX5_addsSort_10 inlX5 (by decide) rfl (by decide) (wl_4 22 rfl) rfl rfl ?_
      refine z_iload_n B 2 dX5_addsSort_13 rfl rfl ?_
      refine z_iconst B dX5_addsSort_14 ?_
      obtain ⟨w1, q2, h⟩ := Option.bind_eq_some_iff.mp h
      refine z_iast (Or.inr rfl) B dX5_addsSort_15 q2 ?_
      refine z_iconst B dX5_addsSort_16 ?_
      refine z_istore_n B [(3, .int (hg_I 0)), (0, .ref (ad 0)), (1, .int (hg_I x1)), (2, .int (hg_I x2))] dX5_addsSort_17 rfl (by decide) rfl ?_
      refine z_lv (lv' := [(0, .ref (ad 0)), (1, .int (hg_I x1)), (2, .int (hg_I x2)), (3, .int (hg_I 0))]) B [1, 2, 3, 0] rfl ?_
      exact rX5_addsSort_18 B hr ih hg_F _ _ _ _ h
set_option maxHeartbeats 4000000 in
set_option maxRecDepth 100000 in
theorem rX5_addsSort_E (B : hg_B p s m args meth c cX5_addsSort RX5 wsL_law 4 D cI cA ad 1 A) (hr : meth.sig.returnType = none) {a1 : Int} {w1 : hg_W} {r1 : Int} {w : hg_W} (h : fX5_addsSort w a1 = some (w1, r1)) : hg_At p l e (rmX5_addsSort) s m args below meth c D cI cA ad 1 A (MQ below (hg_Qv D cI cA ad 1 A w1) args s 0 0 A) 4 w [(0, .ref (ad 0)), (1, .int (hg_I a1))] 0 [] := by
  unfold fX5_addsSort at h
  refine z_iconst B dX5_addsSort_0 ?_
  refine z_istore_n B [(2, .int (hg_I 0)), (0, .ref (ad 0)), (1, .int (hg_I a1))] dX5_addsSort_1 rfl (by decide) rfl ?_
  refine z_lv (lv' := [(0, .ref (ad 0)), (1, .int (hg_I a1)), (2, .int (hg_I 0))]) B [1, 2, 0] rfl ?_
  exact rX5_addsSort_2 B hr hg_F _ _ _ h
set_option maxHeartbeats 4000000 in
set_option maxRecDepth 100000 in
theorem c_X5_addsSort {l : Launch} {D : va_G} {cI cA : ClassId} {ad : Nat → Nat} {a1 : Int} {w w1 : hg_W} {r1 : Int} (h : fX5_addsSort w a1 = some (w1, r1)) : hg_Mv l yX5_addsSort wxX5_addsSort rmX5_addsSort D cI cA ad 1 w [.ref (ad 0), .int (hg_I a1)] w1 := by
  refine z_metv cX5_addsSort 4 none (by decide) (Nat.le_of_ble_eq_true rfl) ?_
  intro p e s m args below meth c A B hr
  exact rX5_addsSort_E B hr h
abbrev wxX5_ways : List Cond := Cond.code yX5_ways cX5_ways 3 (some .int) :: wsL_law
def fX5_ways_46   : Nat → hg_W → Int → Int → Option (hg_W × Int)
  | 0, _, _, _ => none
  | n + 1, w, x1, x2 =>
    if wr 6 ≤ wr x2 then
      (
        (hg_ag 1 w 20 x1).bind fun v1 =>
        some (w, wr v1)
      )
    else
      hg_bd (fX5_addsSort w x2) fun w3 _ =>
      fX5_ways_46 n w3 x1 (x2 + 1)
def fX5_ways_37 (K16 : hg_W → Int → Int → Option (hg_W × Int))  (w : hg_W) (x1 : Int) (x2 : Int) (s1 : Int) (s2 : Int) : Option (hg_W × Int) :=
  (hg_as 1 w 20 s1 s2).bind fun w1 =>
  K16 w1 x1 (x2 + 1)
def fX5_ways_16   : Nat → hg_W → Int → Int → Option (hg_W × Int)
  | 0, _, _, _ => none
  | n + 1, w, x1, x2 =>
    if wr 1000 ≤ wr x2 then
      (
        fX5_ways_46 hg_F w x1 0
      )
    else
      if wr x2 = 0 then
        (
          fX5_ways_37 (fX5_ways_16 n) w x1 x2 x2 1
        )
      else
        fX5_ways_37 (fX5_ways_16 n) w x1 x2 x2 0
def fX5_ways (w : hg_W) (a1 : Int) : Option (hg_W × Int) :=
  hg_bd (fX5_in w a1 0 999) fun w1 v2 =>
  if wr v2 = 0 then
    (
      some (w1, wr (-2))
    )
  else
    fX5_ways_16 hg_F w1 a1 0
set_option maxHeartbeats 4000000 in
set_option maxRecDepth 100000 in
abbrev rmX5_ways : Room := { frames := 1, cells := 0, slots := 0, locals := 23 }
set_option maxHeartbeats 4000000 in
set_option maxRecDepth 100000 in
theorem rX5_ways_46 (B : hg_B p s m args meth c cX5_ways RX5 wsL_law 3 D cI cA ad 1 A) (hr : meth.sig.returnType = (some .int)) {w1 : hg_W} {r1 : Int} : ∀ (n : Nat), ∀ (w : hg_W) (x1 : Int) (x2 : Int), fX5_ways_46 n w x1 x2 = some (w1, r1) → hg_At p l e (rmX5_ways) s m args below meth c D cI cA ad 1 A (MQ below (hg_Qi D cI cA ad 1 A w1 r1) args s 0 0 A) 3 w [(0, .ref (ad 0)), (1, .int (hg_I x1)), (2, .int (hg_I x2))] 46 [] := by
  intro n
  induction n with
  | zero =>
    intro w x1 x2 h
    cases h
  | succ n ih =>
    intro w x1 x2 h
    simp only [fX5_ways_46] at h
    refine z_iload_n B 2 dX5_ways_46 rfl rfl ?_
    refine z_bipush B dX5_ways_47 (by decide) ?_
    refine z_icmp_ge (tgt := 63) B dX5_ways_49 (by decide) h (fun h => ?_) (fun h => ?_)
    · refine z_aload_n B 0 dX5_ways_63 rfl rfl ?_
      refine z_get5 (v := .ref (ad 20)) B 34 dX5_ways_64 inlX5 (by decide) rfl (by decide) (wl_4 21 rfl) rfl rfl ?_
      refine z_iload_n B 1 dX5_ways_67 rfl rfl ?_
      obtain ⟨v1, q2, h⟩ := Option.bind_eq_some_iff.mp h
      refine z_iald (Or.inr rfl) B dX5_ways_68 q2 ?_
      exact z_iret B hr dX5_ways_69 h
    · refine z_aload_n B 0 dX5_ways_52 rfl rfl ?_
      refine z_iload_n B 2 dX5_ways_53 rfl rfl ?_
      obtain ⟨w3, v4, q5, h⟩ := hg_bd_some h
      refine z_callvV (a := 0) (ci := 5) (N := 37) (T := TX5) (C := RX5) (As := [.int (hg_I x2)]) (n := 1) B dX5_ways_54 (c_X5_addsSort q5) (gl_V (wl_27 13 rfl) (wl_27 14 rfl) (wl_27 15 rfl) (wl_1 5 rfl) (wl_27 16 rfl)) rfl ⟨rfl, rfl⟩ (by decide +kernel) ⟨Nat.le_of_ble_eq_true rfl, Nat.le_of_ble_eq_true rfl⟩ (by decide) rfl (by decide) rfl rfl rfl (Nat.le_of_ble_eq_true rfl) ?_
      refine z_iinc B 2 [(2, .int (hg_I (x2 + 1))), (0, .ref (ad 0)), (1, .int (hg_I x1))] dX5_ways_57 rfl (by decide) rfl ?_
      refine z_goto (tgt := 46) B dX5_ways_60 (by decide) ?_
      refine z_lv (lv' := [(0, .ref (ad 0)), (1, .int (hg_I x1)), (2, .int (hg_I (x2 + 1)))]) B [1, 2, 0] rfl ?_
      exact ih _ _ _ h
set_option maxHeartbeats 4000000 in
set_option maxRecDepth 100000 in
theorem rX5_ways_37 (B : hg_B p s m args meth c cX5_ways RX5 wsL_law 3 D cI cA ad 1 A) (hr : meth.sig.returnType = (some .int)) {w1 : hg_W} {r1 : Int} {K16 : hg_W → Int → Int → Option (hg_W × Int)} (hK16 : ∀ (w : hg_W) (x1 : Int) (x2 : Int), K16 w x1 x2 = some (w1, r1) → hg_At p l e (rmX5_ways) s m args below meth c D cI cA ad 1 A (MQ below (hg_Qi D cI cA ad 1 A w1 r1) args s 0 0 A) 3 w [(0, .ref (ad 0)), (1, .int (hg_I x1)), (2, .int (hg_I x2))] 16 []) : ∀ (w : hg_W) (x1 : Int) (x2 : Int) (s1 : Int) (s2 : Int), fX5_ways_37 K16 w x1 x2 s1 s2 = some (w1, r1) → hg_At p l e (rmX5_ways) s m args below meth c D cI cA ad 1 A (MQ below (hg_Qi D cI cA ad 1 A w1 r1) args s 0 0 A) 3 w [(0, .ref (ad 0)), (1, .int (hg_I x1)), (2, .int (hg_I x2))] 37 [.int (hg_I s2), .int (hg_I s1), .ref (ad 20)] := by
  intro w x1 x2 s1 s2 h
  unfold fX5_ways_37 at h
  obtain ⟨w1, q2, h⟩ := Option.bind_eq_some_iff.mp h
  refine z_iast (Or.inr rfl) B dX5_ways_37 q2 ?_
  refine z_iinc B 2 [(2, .int (hg_I (x2 + 1))), (0, .ref (ad 0)), (1, .int (hg_I x1))] dX5_ways_38 rfl (by decide) rfl ?_
  refine z_goto (tgt := 16) B dX5_ways_41 (by decide) ?_
  refine z_lv (lv' := [(0, .ref (ad 0)), (1, .int (hg_I x1)), (2, .int (hg_I (x2 + 1)))]) B [1, 2, 0] rfl ?_
  exact hK16 _ _ _ h
set_option maxHeartbeats 4000000 in
set_option maxRecDepth 100000 in
theorem rX5_ways_16 (B : hg_B p s m args meth c cX5_ways RX5 wsL_law 3 D cI cA ad 1 A) (hr : meth.sig.returnType = (some .int)) {w1 : hg_W} {r1 : Int} : ∀ (n : Nat), ∀ (w : hg_W) (x1 : Int) (x2 : Int), fX5_ways_16 n w x1 x2 = some (w1, r1) → hg_At p l e (rmX5_ways) s m args below meth c D cI cA ad 1 A (MQ below (hg_Qi D cI cA ad 1 A w1 r1) args s 0 0 A) 3 w [(0, .ref (ad 0)), (1, .int (hg_I x1)), (2, .int (hg_I x2))] 16 [] := by
  intro n
  induction n with
  | zero =>
    intro w x1 x2 h
    cases h
  | succ n ih =>
    intro w x1 x2 h
    simp only [fX5_ways_16] at h
    refine z_iload_n B 2 dX5_ways_16 rfl rfl ?_
    refine z_sipush B dX5_ways_17 (by decide) ?_
    refine z_icmp_ge (tgt := 44) B dX5_ways_20 (by decide) h (fun h => ?_) (fun h => ?_)
    · refine z_iconst B dX5_ways_44 ?_
      refine z_istore_n B [(2, .int (hg_I 0)), (0, .ref (ad 0)), (1, .int (hg_I x1))] dX5_ways_45 rfl (by decide) rfl ?_
      refine z_lv (lv' := [(0, .ref (ad 0)), (1, .int (hg_I x1)), (2, .int (hg_I 0))]) B [1, 2, 0] rfl ?_
      exact rX5_ways_46 B hr hg_F _ _ _ h
    · refine z_aload_n B 0 dX5_ways_23 rfl rfl ?_
      refine z_get5 (v := .ref (ad 20)) B 34 dX5_ways_24 inlX5 (by decide) rfl (by decide) (wl_4 21 rfl) rfl rfl ?_
      refine z_iload_n B 2 dX5_ways_27 rfl rfl ?_
      refine z_iload_n B 2 dX5_ways_28 rfl rfl ?_
      refine z_if_ne (tgt := 36) B dX5_ways_29 (by decide) h (fun h => ?_) (fun h => ?_)
      · refine z_iconst B dX5_ways_36 ?_
        exact rX5_ways_37 B hr ih _ _ _ _ _ h
      · refine z_iconst B dX5_ways_32 ?_
        refine z_goto (tgt := 37) B dX5_ways_33 (by decide) ?_
        exact rX5_ways_37 B hr ih _ _ _ _ _ h
set_option maxHeartbeats 4000000 in
set_option maxRecDepth 100000 in
theorem rX5_ways_E (B : hg_B p s m args meth c cX5_ways RX5 wsL_law 3 D cI cA ad 1 A) (hr : meth.sig.returnType = (some .int)) {a1 : Int} {w1 : hg_W} {r1 : Int} {w : hg_W} (h : fX5_ways w a1 = some (w1, r1)) : hg_At p l e (rmX5_ways) s m args below meth c D cI cA ad 1 A (MQ below (hg_Qi D cI cA ad 1 A w1 r1) args s 0 0 A) 3 w [(0, .ref (ad 0)), (1, .int (hg_I a1))] 0 [] := by
  unfold fX5_ways at h
  refine z_iload_n B 1 dX5_ways_0 rfl rfl ?_
  refine z_iconst B dX5_ways_1 ?_
  refine z_sipush B dX5_ways_2 (by decide) ?_
  obtain ⟨w1, v2, q3, h⟩ := hg_bd_some h
  refine z_calliS (As := [.int (hg_I a1), .int (hg_I 0), .int (hg_I 999)]) (n := 3) B dX5_ways_5 (c_X5_in q3) (gl_S (wl_5 14 rfl) (wl_5 15 rfl) (wl_1 5 rfl) (wl_5 16 rfl)) rfl ⟨rfl, rfl⟩ (by decide +kernel) ⟨Nat.le_of_ble_eq_true rfl, Nat.le_of_ble_eq_true rfl⟩ rfl rfl (Nat.le_of_ble_eq_true rfl) ?_
  refine z_if_ne (tgt := 14) B dX5_ways_8 (by decide) h (fun h => ?_) (fun h => ?_)
  · refine z_iconst B dX5_ways_14 ?_
    refine z_istore_n B [(2, .int (hg_I 0)), (0, .ref (ad 0)), (1, .int (hg_I a1))] dX5_ways_15 rfl (by decide) rfl ?_
    refine z_lv (lv' := [(0, .ref (ad 0)), (1, .int (hg_I a1)), (2, .int (hg_I 0))]) B [1, 2, 0] rfl ?_
    exact rX5_ways_16 B hr hg_F _ _ _ h
  · refine z_bipush B dX5_ways_11 (by decide) ?_
    exact z_iret B hr dX5_ways_13 h
set_option maxHeartbeats 4000000 in
set_option maxRecDepth 100000 in
theorem c_X5_ways {l : Launch} {D : va_G} {cI cA : ClassId} {ad : Nat → Nat} {a1 : Int} {w w1 : hg_W} {r1 : Int} (h : fX5_ways w a1 = some (w1, r1)) : hg_Mi l yX5_ways wxX5_ways rmX5_ways D cI cA ad 1 w [.ref (ad 0), .int (hg_I a1)] w1 r1 := by
  refine z_meti cX5_ways 3 (some .int) (by decide) (Nat.le_of_ble_eq_true rfl) ?_
  intro p e s m args below meth c A B hr
  exact rX5_ways_E B hr h
abbrev wxX5_lowest : List Cond := Cond.code yX5_lowest cX5_lowest 11 (some .long) :: wsL_law
def fX5_lowest_51   (w : hg_W) (x5 : Int) (s0 : Int) : Option (hg_W × Int) :=
  if wl x5 = 0 then none else
  some (w, wl (hg_ldv s0 x5))
def fX5_lowest_16   : Nat → hg_W → Int → Int → Int → Int → Int → Option (hg_W × Int)
  | 0, _, _, _, _, _, _ => none
  | n + 1, w, x0, x2, x4, x5, x7 =>
    if wr (hg_lcmp x7 0) = 0 then
      (
        if wr x4 = 0 then
          (
            fX5_lowest_51 w x5 x0
          )
        else
          fX5_lowest_51 w x5 x2
      )
    else
      if wl x7 = 0 then none else
      fX5_lowest_16 n w x0 x2 x4 x7 (hg_lrm x5 x7)
def fX5_lowest (w : hg_W) (a1 : Int) (a2 : Int) (a3 : Int) : Option (hg_W × Int) :=
  if wr (hg_lcmp a1 0) = 0 then
    (
      some (w, wl (wr a3))
    )
  else
    fX5_lowest_16 hg_F w a1 a2 a3 a1 a2
set_option maxHeartbeats 4000000 in
set_option maxRecDepth 100000 in
abbrev rmX5_lowest : Room := { frames := 0, cells := 0, slots := 0, locals := 0 }
set_option maxHeartbeats 4000000 in
set_option maxRecDepth 100000 in
theorem rX5_lowest_51 (B : hg_B p s m args meth c cX5_lowest RX5 wsL_law 11 D cI cA ad 1 A) (hr : meth.sig.returnType = (some .long)) {w1 : hg_W} {r1 : Int} : ∀ (w : hg_W) (x5 : Int) (s0 : Int), fX5_lowest_51 w x5 s0 = some (w1, r1) → hg_At p l e (rmX5_lowest) s m args below meth c D cI cA ad 1 A (MQ below (hg_Ql D cI cA ad 1 A w1 r1) args s 0 0 A) 11 w [(5, .long (hg_J x5))] 51 [.long (hg_J s0)] := by
  intro w x5 s0 h
  unfold fX5_lowest_51 at h
  refine z_lload B 0 dX5_lowest_51 rfl ?_
  by_cases z1 : wl x5 = 0
  · rw [if_pos z1] at h; cases h
  rw [if_neg z1] at h
  refine z_ldiv B dX5_lowest_53 z1 ?_
  exact z_lret B hr dX5_lowest_54 h
set_option maxHeartbeats 4000000 in
set_option maxRecDepth 100000 in
theorem rX5_lowest_16 (B : hg_B p s m args meth c cX5_lowest RX5 wsL_law 11 D cI cA ad 1 A) (hr : meth.sig.returnType = (some .long)) {w1 : hg_W} {r1 : Int} : ∀ (n : Nat), ∀ (w : hg_W) (x0 : Int) (x2 : Int) (x4 : Int) (x5 : Int) (x7 : Int), fX5_lowest_16 n w x0 x2 x4 x5 x7 = some (w1, r1) → hg_At p l e (rmX5_lowest) s m args below meth c D cI cA ad 1 A (MQ below (hg_Ql D cI cA ad 1 A w1 r1) args s 0 0 A) 11 w [(0, .long (hg_J x0)), (2, .long (hg_J x2)), (4, .int (hg_I x4)), (5, .long (hg_J x5)), (7, .long (hg_J x7))] 16 [] := by
  intro n
  induction n with
  | zero =>
    intro w x0 x2 x4 x5 x7 h
    cases h
  | succ n ih =>
    intro w x0 x2 x4 x5 x7 h
    simp only [fX5_lowest_16] at h
    refine z_lload B 4 dX5_lowest_16 rfl ?_
    refine z_lconst (x := 0) B dX5_lowest_18 (by decide) ?_
    refine z_lcmp B dX5_lowest_19 ?_
    refine z_if_eq (tgt := 41) B dX5_lowest_20 (by decide) h (fun h => ?_) (fun h => ?_)
    · refine z_iload B 2 dX5_lowest_41 rfl ?_
      refine z_if_ne (tgt := 50) B dX5_lowest_43 (by decide) h (fun h => ?_) (fun h => ?_)
      · refine z_lload_n B 1 dX5_lowest_50 rfl rfl ?_
        refine z_lv (lv' := [(5, .long (hg_J x5))]) B [3] rfl ?_
        exact rX5_lowest_51 B hr _ _ _ h
      · refine z_lload_n B 0 dX5_lowest_46 rfl rfl ?_
        refine z_goto (tgt := 51) B dX5_lowest_47 (by decide) ?_
        refine z_lv (lv' := [(5, .long (hg_J x5))]) B [3] rfl ?_
        exact rX5_lowest_51 B hr _ _ _ h
    · refine z_lload B 3 dX5_lowest_23 rfl ?_
      refine z_lload B 4 dX5_lowest_25 rfl ?_
      by_cases z1 : wl x7 = 0
      · rw [if_pos z1] at h; cases h
      rw [if_neg z1] at h
      refine z_lrem B dX5_lowest_27 z1 ?_
      refine z_lstore B [(9, .long (hg_J (hg_lrm x5 x7))), (0, .long (hg_J x0)), (2, .long (hg_J x2)), (4, .int (hg_I x4)), (5, .long (hg_J x5)), (7, .long (hg_J x7))] dX5_lowest_28 (by decide) rfl ?_
      refine z_lload B 5 dX5_lowest_30 rfl ?_
      refine z_lstore B [(5, .long (hg_J x7)), (9, .long (hg_J (hg_lrm x5 x7))), (0, .long (hg_J x0)), (2, .long (hg_J x2)), (4, .int (hg_I x4)), (7, .long (hg_J x7))] dX5_lowest_32 (by decide) rfl ?_
      refine z_lload B 1 dX5_lowest_34 rfl ?_
      refine z_lstore B [(7, .long (hg_J (hg_lrm x5 x7))), (5, .long (hg_J x7)), (9, .long (hg_J (hg_lrm x5 x7))), (0, .long (hg_J x0)), (2, .long (hg_J x2)), (4, .int (hg_I x4))] dX5_lowest_36 (by decide) rfl ?_
      refine z_goto (tgt := 16) B dX5_lowest_38 (by decide) ?_
      refine z_lv (lv' := [(0, .long (hg_J x0)), (2, .long (hg_J x2)), (4, .int (hg_I x4)), (5, .long (hg_J x7)), (7, .long (hg_J (hg_lrm x5 x7)))]) B [3, 4, 5, 1, 0] rfl ?_
      exact ih _ _ _ _ _ _ h
set_option maxHeartbeats 4000000 in
set_option maxRecDepth 100000 in
theorem rX5_lowest_E (B : hg_B p s m args meth c cX5_lowest RX5 wsL_law 11 D cI cA ad 1 A) (hr : meth.sig.returnType = (some .long)) {a1 : Int} {a2 : Int} {a3 : Int} {w1 : hg_W} {r1 : Int} {w : hg_W} (h : fX5_lowest w a1 a2 a3 = some (w1, r1)) : hg_At p l e (rmX5_lowest) s m args below meth c D cI cA ad 1 A (MQ below (hg_Ql D cI cA ad 1 A w1 r1) args s 0 0 A) 11 w [(0, .long (hg_J a1)), (2, .long (hg_J a2)), (4, .int (hg_I a3))] 0 [] := by
  unfold fX5_lowest at h
  refine z_lload_n B 0 dX5_lowest_0 rfl rfl ?_
  refine z_lconst (x := 0) B dX5_lowest_1 (by decide) ?_
  refine z_lcmp B dX5_lowest_2 ?_
  refine z_if_ne (tgt := 10) B dX5_lowest_3 (by decide) h (fun h => ?_) (fun h => ?_)
  · refine z_lload_n B 0 dX5_lowest_10 rfl rfl ?_
    refine z_lstore B [(5, .long (hg_J a1)), (0, .long (hg_J a1)), (2, .long (hg_J a2)), (4, .int (hg_I a3))] dX5_lowest_11 (by decide) rfl ?_
    refine z_lload_n B 2 dX5_lowest_13 rfl rfl ?_
    refine z_lstore B [(7, .long (hg_J a2)), (5, .long (hg_J a1)), (0, .long (hg_J a1)), (2, .long (hg_J a2)), (4, .int (hg_I a3))] dX5_lowest_14 (by decide) rfl ?_
    refine z_lv (lv' := [(0, .long (hg_J a1)), (2, .long (hg_J a2)), (4, .int (hg_I a3)), (5, .long (hg_J a1)), (7, .long (hg_J a2))]) B [2, 3, 4, 1, 0] rfl ?_
    exact rX5_lowest_16 B hr hg_F _ _ _ _ _ _ h
  · refine z_iload B 2 dX5_lowest_6 rfl ?_
    refine z_i2l B dX5_lowest_8 ?_
    exact z_lret B hr dX5_lowest_9 h
set_option maxHeartbeats 4000000 in
set_option maxRecDepth 100000 in
theorem c_X5_lowest {l : Launch} {D : va_G} {cI cA : ClassId} {ad : Nat → Nat} {a1 : Int} {a2 : Int} {a3 : Int} {w w1 : hg_W} {r1 : Int} (h : fX5_lowest w a1 a2 a3 = some (w1, r1)) : hg_Ml l yX5_lowest wxX5_lowest rmX5_lowest D cI cA ad 1 w [.long (hg_J a1), .long (hg_J a2), .int (hg_I a3)] w1 r1 := by
  refine z_metl cX5_lowest 11 (some .long) (by decide) (Nat.le_of_ble_eq_true rfl) ?_
  intro p e s m args below meth c A B hr
  exact rX5_lowest_E B hr h
abbrev wxX5_share : List Cond := Cond.code yX5_share cX5_share 5 (some .long) :: wsL_law
def fX5_share_8   : Nat → hg_W → Int → Int → Int → Int → Option (hg_W × Int)
  | 0, _, _, _, _, _ => none
  | n + 1, w, x1, x2, x3, x4 =>
    if wr (w 0 0) ≤ wr x4 then
      (
        hg_bd (fX5_isOne w x1) fun w1 v2 =>
        if wr v2 = 0 then
          (
            some (w1, wl (-4611686018427387904))
          )
        else
          hg_bd (fX5_in w1 x2 0 1) fun w4 v5 =>
          if wr v5 = 0 then
            (
              some (w4, wl (-4611686018427387904))
            )
          else
            if wr x3 ≤ 0 then
              (
                some (w4, wl (-4611686018427387904))
              )
            else
              (hg_ag 1 w4 3 ((3 * x1) + 1)).bind fun v7 =>
              hg_bd (fX5_lowest w4 (wr v7) (wr x3) x2) fun w9 v10 =>
              some (w9, wl v10)
      )
    else
      (hg_ag 1 w 3 ((3 * x4) + 1)).bind fun v12 =>
      fX5_share_8 n w x1 x2 (x3 + v12) (x4 + 1)
def fX5_share (w : hg_W) (a1 : Int) (a2 : Int) : Option (hg_W × Int) :=
  hg_bd (fX5_worthAll w) fun w1 v2 =>
  fX5_share_8 hg_F w1 a1 a2 v2 0
set_option maxHeartbeats 4000000 in
set_option maxRecDepth 100000 in
abbrev rmX5_share : Room := { frames := 2, cells := 0, slots := 0, locals := 43 }
set_option maxHeartbeats 4000000 in
set_option maxRecDepth 100000 in
theorem rX5_share_8 (B : hg_B p s m args meth c cX5_share RX5 wsL_law 5 D cI cA ad 1 A) (hr : meth.sig.returnType = (some .long)) {w1 : hg_W} {r1 : Int} : ∀ (n : Nat), ∀ (w : hg_W) (x1 : Int) (x2 : Int) (x3 : Int) (x4 : Int), fX5_share_8 n w x1 x2 x3 x4 = some (w1, r1) → hg_At p l e (rmX5_share) s m args below meth c D cI cA ad 1 A (MQ below (hg_Ql D cI cA ad 1 A w1 r1) args s 0 0 A) 5 w [(0, .ref (ad 0)), (1, .int (hg_I x1)), (2, .int (hg_I x2)), (3, .int (hg_I x3)), (4, .int (hg_I x4))] 8 [] := by
  intro n
  induction n with
  | zero =>
    intro w x1 x2 x3 x4 h
    cases h
  | succ n ih =>
    intro w x1 x2 x3 x4 h
    simp only [fX5_share_8] at h
    refine z_iload B 4 dX5_share_8 rfl ?_
    refine z_aload_n B 0 dX5_share_10 rfl rfl ?_
    refine z_get5 (v := .int (hg_I (w 0 0))) B 0 dX5_share_11 inlX5 (by decide) rfl (by decide) (wl_7 22 rfl) rfl rfl ?_
    refine z_icmp_ge (tgt := 37) B dX5_share_14 (by decide) h (fun h => ?_) (fun h => ?_)
    · refine z_aload_n B 0 dX5_share_37 rfl rfl ?_
      refine z_iload_n B 1 dX5_share_38 rfl rfl ?_
      obtain ⟨w1, v2, q3, h⟩ := hg_bd_some h
      refine z_calliV (a := 0) (ci := 5) (N := 37) (T := TX5) (C := RX5) (As := [.int (hg_I x1)]) (n := 1) B dX5_share_39 (c_X5_isOne q3) (gl_V (wl_17 2 rfl) (wl_17 3 rfl) (wl_17 4 rfl) (wl_1 5 rfl) (wl_17 5 rfl)) rfl ⟨rfl, rfl⟩ (by decide +kernel) ⟨Nat.le_of_ble_eq_true rfl, Nat.le_of_ble_eq_true rfl⟩ (by decide) rfl (by decide) rfl rfl rfl (Nat.le_of_ble_eq_true rfl) ?_
      refine z_if_eq (tgt := 78) B dX5_share_42 (by decide) h (fun h => ?_) (fun h => ?_)
      · refine z_ldc2 (n := -4611686018427387904) (v := -4611686018427387904) B dX5_share_78 (wl_28 5 rfl) (by decide) ?_
        exact z_lret B hr dX5_share_81 h
      · refine z_iload_n B 2 dX5_share_45 rfl rfl ?_
        refine z_iconst B dX5_share_46 ?_
        refine z_iconst B dX5_share_47 ?_
        obtain ⟨w4, v5, q6, h⟩ := hg_bd_some h
        refine z_calliS (As := [.int (hg_I x2), .int (hg_I 0), .int (hg_I 1)]) (n := 3) B dX5_share_48 (c_X5_in q6) (gl_S (wl_5 14 rfl) (wl_5 15 rfl) (wl_1 5 rfl) (wl_5 16 rfl)) rfl ⟨rfl, rfl⟩ (by decide +kernel) ⟨Nat.le_of_ble_eq_true rfl, Nat.le_of_ble_eq_true rfl⟩ rfl rfl (Nat.le_of_ble_eq_true rfl) ?_
        refine z_if_eq (tgt := 78) B dX5_share_51 (by decide) h (fun h => ?_) (fun h => ?_)
        · refine z_ldc2 (n := -4611686018427387904) (v := -4611686018427387904) B dX5_share_78 (wl_28 5 rfl) (by decide) ?_
          exact z_lret B hr dX5_share_81 h
        · refine z_iload_n B 3 dX5_share_54 rfl rfl ?_
          refine z_if_le (tgt := 78) B dX5_share_55 (by decide) h (fun h => ?_) (fun h => ?_)
          · refine z_ldc2 (n := -4611686018427387904) (v := -4611686018427387904) B dX5_share_78 (wl_28 5 rfl) (by decide) ?_
            exact z_lret B hr dX5_share_81 h
          · refine z_aload_n B 0 dX5_share_58 rfl rfl ?_
            refine z_get5 (v := .ref (ad 3)) B 3 dX5_share_59 inlX5 (by decide) rfl (by decide) (wl_4 4 rfl) rfl rfl ?_
            refine z_iconst B dX5_share_62 ?_
            refine z_iload_n B 1 dX5_share_63 rfl rfl ?_
            refine z_imul B dX5_share_64 ?_
            refine z_iconst B dX5_share_65 ?_
            refine z_iadd B dX5_share_66 ?_
            obtain ⟨v7, q8, h⟩ := Option.bind_eq_some_iff.mp h
            refine z_iald (Or.inr rfl) B dX5_share_67 q8 ?_
            refine z_i2l B dX5_share_68 ?_
            refine z_iload_n B 3 dX5_share_69 rfl rfl ?_
            refine z_i2l B dX5_share_70 ?_
            refine z_iload_n B 2 dX5_share_71 rfl rfl ?_
            obtain ⟨w9, v10, q11, h⟩ := hg_bd_some h
            refine z_calllS (As := [.long (hg_J (wr v7)), .long (hg_J (wr x3)), .int (hg_I x2)]) (n := 3) B dX5_share_72 (c_X5_lowest q11) (gl_S (wl_28 6 rfl) (wl_28 7 rfl) (wl_1 5 rfl) (wl_28 8 rfl)) rfl ⟨rfl, rfl⟩ (by decide +kernel) ⟨Nat.le_of_ble_eq_true rfl, Nat.le_of_ble_eq_true rfl⟩ rfl rfl (Nat.le_of_ble_eq_true rfl) ?_
            refine z_goto (tgt := 81) B dX5_share_75 (by decide) ?_
            exact z_lret B hr dX5_share_81 h
    · refine z_iload_n B 3 dX5_share_17 rfl rfl ?_
      refine z_aload_n B 0 dX5_share_18 rfl rfl ?_
      refine z_get5 (v := .ref (ad 3)) B 3 dX5_share_19 inlX5 (by decide) rfl (by decide) (wl_4 4 rfl) rfl rfl ?_
      refine z_iconst B dX5_share_22 ?_
      refine z_iload B 4 dX5_share_23 rfl ?_
      refine z_imul B dX5_share_25 ?_
      refine z_iconst B dX5_share_26 ?_
      refine z_iadd B dX5_share_27 ?_
      obtain ⟨v12, q13, h⟩ := Option.bind_eq_some_iff.mp h
      refine z_iald (Or.inr rfl) B dX5_share_28 q13 ?_
      refine z_iadd B dX5_share_29 ?_
      refine z_istore_n B [(3, .int (hg_I (x3 + v12))), (0, .ref (ad 0)), (1, .int (hg_I x1)), (2, .int (hg_I x2)), (4, .int (hg_I x4))] dX5_share_30 rfl (by decide) rfl ?_
      refine z_iinc B 4 [(4, .int (hg_I (x4 + 1))), (3, .int (hg_I (x3 + v12))), (0, .ref (ad 0)), (1, .int (hg_I x1)), (2, .int (hg_I x2))] dX5_share_31 rfl (by decide) rfl ?_
      refine z_goto (tgt := 8) B dX5_share_34 (by decide) ?_
      refine z_lv (lv' := [(0, .ref (ad 0)), (1, .int (hg_I x1)), (2, .int (hg_I x2)), (3, .int (hg_I (x3 + v12))), (4, .int (hg_I (x4 + 1)))]) B [2, 3, 4, 1, 0] rfl ?_
      exact ih _ _ _ _ _ h
set_option maxHeartbeats 4000000 in
set_option maxRecDepth 100000 in
theorem rX5_share_E (B : hg_B p s m args meth c cX5_share RX5 wsL_law 5 D cI cA ad 1 A) (hr : meth.sig.returnType = (some .long)) {a1 : Int} {a2 : Int} {w1 : hg_W} {r1 : Int} {w : hg_W} (h : fX5_share w a1 a2 = some (w1, r1)) : hg_At p l e (rmX5_share) s m args below meth c D cI cA ad 1 A (MQ below (hg_Ql D cI cA ad 1 A w1 r1) args s 0 0 A) 5 w [(0, .ref (ad 0)), (1, .int (hg_I a1)), (2, .int (hg_I a2))] 0 [] := by
  unfold fX5_share at h
  refine z_aload_n B 0 dX5_share_0 rfl rfl ?_
  obtain ⟨w1, v2, q3, h⟩ := hg_bd_some h
  refine z_calliV (a := 0) (ci := 5) (N := 37) (T := TX5) (C := RX5) (As := []) (n := 0) B dX5_share_1 (c_X5_worthAll q3) (gl_V (wl_9 15 rfl) (wl_9 16 rfl) (wl_9 17 rfl) (wl_1 5 rfl) (wl_9 18 rfl)) rfl ⟨rfl, rfl⟩ (by decide +kernel) ⟨Nat.le_of_ble_eq_true rfl, Nat.le_of_ble_eq_true rfl⟩ (by decide) rfl (by decide) rfl rfl rfl (Nat.le_of_ble_eq_true rfl) ?_
  refine z_istore_n B [(3, .int (hg_I v2)), (0, .ref (ad 0)), (1, .int (hg_I a1)), (2, .int (hg_I a2))] dX5_share_4 rfl (by decide) rfl ?_
  refine z_iconst B dX5_share_5 ?_
  refine z_istore B [(4, .int (hg_I 0)), (3, .int (hg_I v2)), (0, .ref (ad 0)), (1, .int (hg_I a1)), (2, .int (hg_I a2))] dX5_share_6 (by decide) rfl ?_
  refine z_lv (lv' := [(0, .ref (ad 0)), (1, .int (hg_I a1)), (2, .int (hg_I a2)), (3, .int (hg_I v2)), (4, .int (hg_I 0))]) B [2, 3, 4, 1, 0] rfl ?_
  exact rX5_share_8 B hr hg_F _ _ _ _ _ h
set_option maxHeartbeats 4000000 in
set_option maxRecDepth 100000 in
theorem c_X5_share {l : Launch} {D : va_G} {cI cA : ClassId} {ad : Nat → Nat} {a1 : Int} {a2 : Int} {w w1 : hg_W} {r1 : Int} (h : fX5_share w a1 a2 = some (w1, r1)) : hg_Ml l yX5_share wxX5_share rmX5_share D cI cA ad 1 w [.ref (ad 0), .int (hg_I a1), .int (hg_I a2)] w1 r1 := by
  refine z_metl cX5_share 5 (some .long) (by decide) (Nat.le_of_ble_eq_true rfl) ?_
  intro p e s m args below meth c A B hr
  exact rX5_share_E B hr h
abbrev wxX5_sheetWrong : List Cond := Cond.code yX5_sheetWrong cX5_sheetWrong 2 (some .int) :: wsL_law
def fX5_sheetWrong (w : hg_W) (a1 : Int) : Option (hg_W × Int) :=
  hg_bd (fX5_in w a1 0 3) fun w1 v2 =>
  if wr v2 = 0 then
    (
      some (w1, wr (-2))
    )
  else
    (hg_ag 1 w1 10 a1).bind fun v4 =>
    if wr v4 = wr (-1) then
      (
        some (w1, wr (-11))
      )
    else
      (hg_ag 1 w1 11 a1).bind fun v6 =>
      if wr v6 ≤ wr 30 then
        (
          some (w1, wr 0)
        )
      else
        some (w1, wr (-2))
set_option maxHeartbeats 4000000 in
set_option maxRecDepth 100000 in
abbrev rmX5_sheetWrong : Room := { frames := 1, cells := 0, slots := 0, locals := 22 }
set_option maxHeartbeats 4000000 in
set_option maxRecDepth 100000 in
theorem rX5_sheetWrong_E (B : hg_B p s m args meth c cX5_sheetWrong RX5 wsL_law 2 D cI cA ad 1 A) (hr : meth.sig.returnType = (some .int)) {a1 : Int} {w1 : hg_W} {r1 : Int} {w : hg_W} (h : fX5_sheetWrong w a1 = some (w1, r1)) : hg_At p l e (rmX5_sheetWrong) s m args below meth c D cI cA ad 1 A (MQ below (hg_Qi D cI cA ad 1 A w1 r1) args s 0 0 A) 2 w [(0, .ref (ad 0)), (1, .int (hg_I a1))] 0 [] := by
  unfold fX5_sheetWrong at h
  refine z_iload_n B 1 dX5_sheetWrong_0 rfl rfl ?_
  refine z_iconst B dX5_sheetWrong_1 ?_
  refine z_iconst B dX5_sheetWrong_2 ?_
  obtain ⟨w1, v2, q3, h⟩ := hg_bd_some h
  refine z_calliS (As := [.int (hg_I a1), .int (hg_I 0), .int (hg_I 3)]) (n := 3) B dX5_sheetWrong_3 (c_X5_in q3) (gl_S (wl_5 14 rfl) (wl_5 15 rfl) (wl_1 5 rfl) (wl_5 16 rfl)) rfl ⟨rfl, rfl⟩ (by decide +kernel) ⟨Nat.le_of_ble_eq_true rfl, Nat.le_of_ble_eq_true rfl⟩ rfl rfl (Nat.le_of_ble_eq_true rfl) ?_
  refine z_if_ne (tgt := 12) B dX5_sheetWrong_6 (by decide) h (fun h => ?_) (fun h => ?_)
  · refine z_aload_n B 0 dX5_sheetWrong_12 rfl rfl ?_
    refine z_get5 (v := .ref (ad 10)) B 16 dX5_sheetWrong_13 inlX5 (by decide) rfl (by decide) (wl_4 11 rfl) rfl rfl ?_
    refine z_iload_n B 1 dX5_sheetWrong_16 rfl rfl ?_
    obtain ⟨v4, q5, h⟩ := Option.bind_eq_some_iff.mp h
    refine z_iald (Or.inr rfl) B dX5_sheetWrong_17 q5 ?_
    refine z_iconst B dX5_sheetWrong_18 ?_
    refine z_icmp_ne (tgt := 25) B dX5_sheetWrong_19 (by decide) h (fun h => ?_) (fun h => ?_)
    · refine z_aload_n B 0 dX5_sheetWrong_25 rfl rfl ?_
      refine z_get5 (v := .ref (ad 11)) B 17 dX5_sheetWrong_26 inlX5 (by decide) rfl (by decide) (wl_4 12 rfl) rfl rfl ?_
      refine z_iload_n B 1 dX5_sheetWrong_29 rfl rfl ?_
      obtain ⟨v6, q7, h⟩ := Option.bind_eq_some_iff.mp h
      refine z_iald (Or.inr rfl) B dX5_sheetWrong_30 q7 ?_
      refine z_bipush B dX5_sheetWrong_31 (by decide) ?_
      refine z_icmp_le (tgt := 41) B dX5_sheetWrong_33 (by decide) h (fun h => ?_) (fun h => ?_)
      · refine z_iconst B dX5_sheetWrong_41 ?_
        exact z_iret B hr dX5_sheetWrong_42 h
      · refine z_bipush B dX5_sheetWrong_36 (by decide) ?_
        refine z_goto (tgt := 42) B dX5_sheetWrong_38 (by decide) ?_
        exact z_iret B hr dX5_sheetWrong_42 h
    · refine z_bipush B dX5_sheetWrong_22 (by decide) ?_
      exact z_iret B hr dX5_sheetWrong_24 h
  · refine z_bipush B dX5_sheetWrong_9 (by decide) ?_
    exact z_iret B hr dX5_sheetWrong_11 h
set_option maxHeartbeats 4000000 in
set_option maxRecDepth 100000 in
theorem c_X5_sheetWrong {l : Launch} {D : va_G} {cI cA : ClassId} {ad : Nat → Nat} {a1 : Int} {w w1 : hg_W} {r1 : Int} (h : fX5_sheetWrong w a1 = some (w1, r1)) : hg_Mi l yX5_sheetWrong wxX5_sheetWrong rmX5_sheetWrong D cI cA ad 1 w [.ref (ad 0), .int (hg_I a1)] w1 r1 := by
  refine z_meti cX5_sheetWrong 2 (some .int) (by decide) (Nat.le_of_ble_eq_true rfl) ?_
  intro p e s m args below meth c A B hr
  exact rX5_sheetWrong_E B hr h
abbrev wxX5_toldTurn : List Cond := Cond.code yX5_toldTurn cX5_toldTurn 1 (some .int) :: wsL_law
def fX5_toldTurn (w : hg_W) : Option (hg_W × Int) :=
  hg_bd (fX5_isOver w) fun w1 v2 =>
  if wr v2 = 0 then
    (
      hg_bd (fX5_turnOf w1) fun w4 v5 =>
      some (w4, wr (v5 + 1))
    )
  else
    some (w1, wr 0)
set_option maxHeartbeats 4000000 in
set_option maxRecDepth 100000 in
abbrev rmX5_toldTurn : Room := { frames := 7, cells := 0, slots := 0, locals := 166 }
set_option maxHeartbeats 4000000 in
set_option maxRecDepth 100000 in
theorem rX5_toldTurn_E (B : hg_B p s m args meth c cX5_toldTurn RX5 wsL_law 1 D cI cA ad 1 A) (hr : meth.sig.returnType = (some .int)) {w1 : hg_W} {r1 : Int} {w : hg_W} (h : fX5_toldTurn w = some (w1, r1)) : hg_At p l e (rmX5_toldTurn) s m args below meth c D cI cA ad 1 A (MQ below (hg_Qi D cI cA ad 1 A w1 r1) args s 0 0 A) 1 w [(0, .ref (ad 0))] 0 [] := by
  unfold fX5_toldTurn at h
  refine z_aload_n B 0 dX5_toldTurn_0 rfl rfl ?_
  obtain ⟨w1, v2, q3, h⟩ := hg_bd_some h
  refine z_calliV (a := 0) (ci := 5) (N := 37) (T := TX5) (C := RX5) (As := []) (n := 0) B dX5_toldTurn_1 (c_X5_isOver q3) (gl_V (wl_21 21 rfl) (wl_21 22 rfl) (wl_21 23 rfl) (wl_1 5 rfl) (wl_22 0 rfl)) rfl ⟨rfl, rfl⟩ (by decide +kernel) ⟨Nat.le_of_ble_eq_true rfl, Nat.le_of_ble_eq_true rfl⟩ (by decide) rfl (by decide) rfl rfl rfl (Nat.le_of_ble_eq_true rfl) ?_
  refine z_if_eq (tgt := 11) B dX5_toldTurn_4 (by decide) h (fun h => ?_) (fun h => ?_)
  · refine z_aload_n B 0 dX5_toldTurn_11 rfl rfl ?_
    obtain ⟨w4, v5, q6, h⟩ := hg_bd_some h
    refine z_calliV (a := 0) (ci := 5) (N := 37) (T := TX5) (C := RX5) (As := []) (n := 0) B dX5_toldTurn_12 (c_X5_turnOf q6) (gl_V (wl_22 1 rfl) (wl_22 2 rfl) (wl_22 3 rfl) (wl_1 5 rfl) (wl_22 4 rfl)) rfl ⟨rfl, rfl⟩ (by decide +kernel) ⟨Nat.le_of_ble_eq_true rfl, Nat.le_of_ble_eq_true rfl⟩ (by decide) rfl (by decide) rfl rfl rfl (Nat.le_of_ble_eq_true rfl) ?_
    refine z_iconst B dX5_toldTurn_15 ?_
    refine z_iadd B dX5_toldTurn_16 ?_
    exact z_iret B hr dX5_toldTurn_17 h
  · refine z_iconst B dX5_toldTurn_7 ?_
    refine z_goto (tgt := 17) B dX5_toldTurn_8 (by decide) ?_
    exact z_iret B hr dX5_toldTurn_17 h
set_option maxHeartbeats 4000000 in
set_option maxRecDepth 100000 in
theorem c_X5_toldTurn {l : Launch} {D : va_G} {cI cA : ClassId} {ad : Nat → Nat} {w w1 : hg_W} {r1 : Int} (h : fX5_toldTurn w = some (w1, r1)) : hg_Mi l yX5_toldTurn wxX5_toldTurn rmX5_toldTurn D cI cA ad 1 w [.ref (ad 0)] w1 r1 := by
  refine z_meti cX5_toldTurn 1 (some .int) (by decide) (Nat.le_of_ble_eq_true rfl) ?_
  intro p e s m args below meth c A B hr
  exact rX5_toldTurn_E B hr h
abbrev wxX5_unlike : List Cond := Cond.code yX5_unlike cX5_unlike 4 (some .int) :: wsL_law
def fX5_unlike_53   (w : hg_W) (x2 : Int) : Option (hg_W × Int) :=
  hg_bd (fX5_lays w) fun w1 _ =>
  some (w1, wr x2)
def fX5_unlike_46 (K8 : hg_W → Int → Int → Int → Option (hg_W × Int))  (w : hg_W) (x1 : Int) (x3 : Int) (s0 : Int) : Option (hg_W × Int) :=
  K8 w x1 s0 (x3 + 1)
def fX5_unlike_8   : Nat → hg_W → Int → Int → Int → Option (hg_W × Int)
  | 0, _, _, _, _ => none
  | n + 1, w, x1, x2, x3 =>
    (hg_ag 1 w 11 x1).bind fun v1 =>
    if wr v1 ≤ wr x3 then
      (
        fX5_unlike_53 w x2
      )
    else
      if wr x2 = wr (-1) then
        (
          (hg_ag 1 w 12 ((40 * x1) + x3)).bind fun v3 =>
          hg_bd (fX5_toldTurn w) fun w5 v6 =>
          if wr v3 = wr v6 then
            (
              fX5_unlike_46 (fX5_unlike_8 n) w5 x1 x3 (-1)
            )
          else
            fX5_unlike_46 (fX5_unlike_8 n) w5 x1 x3 x3
        )
      else
        fX5_unlike_53 w x2
def fX5_unlike (w : hg_W) (a1 : Int) : Option (hg_W × Int) :=
  hg_bd (fX5_keeps w) fun w1 _ =>
  fX5_unlike_8 hg_F w1 a1 (-1) 0
set_option maxHeartbeats 4000000 in
set_option maxRecDepth 100000 in
abbrev rmX5_unlike : Room := { frames := 8, cells := 0, slots := 0, locals := 186 }
set_option maxHeartbeats 4000000 in
set_option maxRecDepth 100000 in
theorem rX5_unlike_53 (B : hg_B p s m args meth c cX5_unlike RX5 wsL_law 4 D cI cA ad 1 A) (hr : meth.sig.returnType = (some .int)) {w1 : hg_W} {r1 : Int} : ∀ (w : hg_W) (x2 : Int), fX5_unlike_53 w x2 = some (w1, r1) → hg_At p l e (rmX5_unlike) s m args below meth c D cI cA ad 1 A (MQ below (hg_Qi D cI cA ad 1 A w1 r1) args s 0 0 A) 4 w [(0, .ref (ad 0)), (2, .int (hg_I x2))] 53 [] := by
  intro w x2 h
  unfold fX5_unlike_53 at h
  refine z_aload_n B 0 dX5_unlike_53 rfl rfl ?_
  obtain ⟨w1, v2, q3, h⟩ := hg_bd_some h
  refine z_callvV (a := 0) (ci := 5) (N := 37) (T := TX5) (C := RX5) (As := []) (n := 0) B dX5_unlike_54 (c_X5_lays q3) (gl_V (wl_24 2 rfl) (wl_24 3 rfl) (wl_24 4 rfl) (wl_1 5 rfl) (wl_24 5 rfl)) rfl ⟨rfl, rfl⟩ (by decide +kernel) ⟨Nat.le_of_ble_eq_true rfl, Nat.le_of_ble_eq_true rfl⟩ (by decide) rfl (by decide) rfl rfl rfl (Nat.le_of_ble_eq_true rfl) ?_
  refine z_iload_n B 1 dX5_unlike_57 rfl rfl ?_
  exact z_iret B hr dX5_unlike_58 h
set_option maxHeartbeats 4000000 in
set_option maxRecDepth 100000 in
theorem rX5_unlike_46 (B : hg_B p s m args meth c cX5_unlike RX5 wsL_law 4 D cI cA ad 1 A) (hr : meth.sig.returnType = (some .int)) {w1 : hg_W} {r1 : Int} {K8 : hg_W → Int → Int → Int → Option (hg_W × Int)} (hK8 : ∀ (w : hg_W) (x1 : Int) (x2 : Int) (x3 : Int), K8 w x1 x2 x3 = some (w1, r1) → hg_At p l e (rmX5_unlike) s m args below meth c D cI cA ad 1 A (MQ below (hg_Qi D cI cA ad 1 A w1 r1) args s 0 0 A) 4 w [(0, .ref (ad 0)), (1, .int (hg_I x1)), (2, .int (hg_I x2)), (3, .int (hg_I x3))] 8 []) : ∀ (w : hg_W) (x1 : Int) (x3 : Int) (s0 : Int), fX5_unlike_46 K8 w x1 x3 s0 = some (w1, r1) → hg_At p l e (rmX5_unlike) s m args below meth c D cI cA ad 1 A (MQ below (hg_Qi D cI cA ad 1 A w1 r1) args s 0 0 A) 4 w [(0, .ref (ad 0)), (1, .int (hg_I x1)), (3, .int (hg_I x3))] 46 [.int (hg_I s0)] := by
  intro w x1 x3 s0 h
  unfold fX5_unlike_46 at h
  refine z_istore_n B [(2, .int (hg_I s0)), (0, .ref (ad 0)), (1, .int (hg_I x1)), (3, .int (hg_I x3))] dX5_unlike_46 rfl (by decide) rfl ?_
  refine z_iinc B 3 [(3, .int (hg_I (x3 + 1))), (2, .int (hg_I s0)), (0, .ref (ad 0)), (1, .int (hg_I x1))] dX5_unlike_47 rfl (by decide) rfl ?_
  refine z_goto (tgt := 8) B dX5_unlike_50 (by decide) ?_
  refine z_lv (lv' := [(0, .ref (ad 0)), (1, .int (hg_I x1)), (2, .int (hg_I s0)), (3, .int (hg_I (x3 + 1)))]) B [2, 3, 1, 0] rfl ?_
  exact hK8 _ _ _ _ h
set_option maxHeartbeats 4000000 in
set_option maxRecDepth 100000 in
theorem rX5_unlike_8 (B : hg_B p s m args meth c cX5_unlike RX5 wsL_law 4 D cI cA ad 1 A) (hr : meth.sig.returnType = (some .int)) {w1 : hg_W} {r1 : Int} : ∀ (n : Nat), ∀ (w : hg_W) (x1 : Int) (x2 : Int) (x3 : Int), fX5_unlike_8 n w x1 x2 x3 = some (w1, r1) → hg_At p l e (rmX5_unlike) s m args below meth c D cI cA ad 1 A (MQ below (hg_Qi D cI cA ad 1 A w1 r1) args s 0 0 A) 4 w [(0, .ref (ad 0)), (1, .int (hg_I x1)), (2, .int (hg_I x2)), (3, .int (hg_I x3))] 8 [] := by
  intro n
  induction n with
  | zero =>
    intro w x1 x2 x3 h
    cases h
  | succ n ih =>
    intro w x1 x2 x3 h
    simp only [fX5_unlike_8] at h
    refine z_iload_n B 3 dX5_unlike_8 rfl rfl ?_
    refine z_aload_n B 0 dX5_unlike_9 rfl rfl ?_
    refine z_get5 (v := .ref (ad 11)) B 17 dX5_unlike_10 inlX5 (by decide) rfl (by decide) (wl_4 12 rfl) rfl rfl ?_
    refine z_iload_n B 1 dX5_unlike_13 rfl rfl ?_
    obtain ⟨v1, q2, h⟩ := Option.bind_eq_some_iff.mp h
    refine z_iald (Or.inr rfl) B dX5_unlike_14 q2 ?_
    refine z_icmp_ge (tgt := 53) B dX5_unlike_15 (by decide) h (fun h => ?_) (fun h => ?_)
    · refine z_lv (lv' := [(0, .ref (ad 0)), (2, .int (hg_I x2))]) B [0, 2] rfl ?_
      exact rX5_unlike_53 B hr _ _ h
    · refine z_iload_n B 2 dX5_unlike_18 rfl rfl ?_
      refine z_iconst B dX5_unlike_19 ?_
      refine z_icmp_ne (tgt := 53) B dX5_unlike_20 (by decide) h (fun h => ?_) (fun h => ?_)
      · refine z_lv (lv' := [(0, .ref (ad 0)), (2, .int (hg_I x2))]) B [0, 2] rfl ?_
        exact rX5_unlike_53 B hr _ _ h
      · refine z_aload_n B 0 dX5_unlike_23 rfl rfl ?_
        refine z_get5 (v := .ref (ad 12)) B 18 dX5_unlike_24 inlX5 (by decide) rfl (by decide) (wl_4 13 rfl) rfl rfl ?_
        refine z_bipush B dX5_unlike_27 (by decide) ?_
        refine z_iload_n B 1 dX5_unlike_29 rfl rfl ?_
        refine z_imul B dX5_unlike_30 ?_
        refine z_iload_n B 3 dX5_unlike_31 rfl rfl ?_
        refine z_iadd B dX5_unlike_32 ?_
        obtain ⟨v3, q4, h⟩ := Option.bind_eq_some_iff.mp h
        refine z_iald (Or.inr rfl) B dX5_unlike_33 q4 ?_
        refine z_aload_n B 0 dX5_unlike_34 rfl rfl ?_
        obtain ⟨w5, v6, q7, h⟩ := hg_bd_some h
        refine z_calliV (a := 0) (ci := 5) (N := 37) (T := TX5) (C := RX5) (As := []) (n := 0) B dX5_unlike_35 (c_X5_toldTurn q7) (gl_V (wl_29 17 rfl) (wl_29 18 rfl) (wl_29 19 rfl) (wl_1 5 rfl) (wl_29 20 rfl)) rfl ⟨rfl, rfl⟩ (by decide +kernel) ⟨Nat.le_of_ble_eq_true rfl, Nat.le_of_ble_eq_true rfl⟩ (by decide) rfl (by decide) rfl rfl rfl (Nat.le_of_ble_eq_true rfl) ?_
        refine z_icmp_ne (tgt := 45) B dX5_unlike_38 (by decide) h (fun h => ?_) (fun h => ?_)
        · refine z_iload_n B 3 dX5_unlike_45 rfl rfl ?_
          refine z_lv (lv' := [(0, .ref (ad 0)), (1, .int (hg_I x1)), (3, .int (hg_I x3))]) B [0, 1, 3] rfl ?_
          exact rX5_unlike_46 B hr ih _ _ _ _ h
        · refine z_iconst B dX5_unlike_41 ?_
          refine z_goto (tgt := 46) B dX5_unlike_42 (by decide) ?_
          refine z_lv (lv' := [(0, .ref (ad 0)), (1, .int (hg_I x1)), (3, .int (hg_I x3))]) B [0, 1, 3] rfl ?_
          exact rX5_unlike_46 B hr ih _ _ _ _ h
set_option maxHeartbeats 4000000 in
set_option maxRecDepth 100000 in
theorem rX5_unlike_E (B : hg_B p s m args meth c cX5_unlike RX5 wsL_law 4 D cI cA ad 1 A) (hr : meth.sig.returnType = (some .int)) {a1 : Int} {w1 : hg_W} {r1 : Int} {w : hg_W} (h : fX5_unlike w a1 = some (w1, r1)) : hg_At p l e (rmX5_unlike) s m args below meth c D cI cA ad 1 A (MQ below (hg_Qi D cI cA ad 1 A w1 r1) args s 0 0 A) 4 w [(0, .ref (ad 0)), (1, .int (hg_I a1))] 0 [] := by
  unfold fX5_unlike at h
  refine z_iconst B dX5_unlike_0 ?_
  refine z_istore_n B [(2, .int (hg_I (-1))), (0, .ref (ad 0)), (1, .int (hg_I a1))] dX5_unlike_1 rfl (by decide) rfl ?_
  refine z_aload_n B 1 dX5_unlike_2 rfl rfl ?_
  obtain ⟨w1, v2, q3, h⟩ := hg_bd_some h
  refine z_callvV (a := 0) (ci := 5) (N := 37) (T := TX5) (C := RX5) (As := []) (n := 0) B dX5_unlike_3 (c_X5_keeps q3) (gl_V (wl_23 18 rfl) (wl_23 19 rfl) (wl_23 20 rfl) (wl_1 5 rfl) (wl_23 21 rfl)) rfl ⟨rfl, rfl⟩ (by decide +kernel) ⟨Nat.le_of_ble_eq_true rfl, Nat.le_of_ble_eq_true rfl⟩ (by decide) rfl (by decide) rfl rfl rfl (Nat.le_of_ble_eq_true rfl) ?_
  refine z_iconst B dX5_unlike_6 ?_
  refine z_istore_n B [(3, .int (hg_I 0)), (2, .int (hg_I (-1))), (0, .ref (ad 0)), (1, .int (hg_I a1))] dX5_unlike_7 rfl (by decide) rfl ?_
  refine z_lv (lv' := [(0, .ref (ad 0)), (1, .int (hg_I a1)), (2, .int (hg_I (-1))), (3, .int (hg_I 0))]) B [2, 3, 1, 0] rfl ?_
  exact rX5_unlike_8 B hr hg_F _ _ _ _ h
set_option maxHeartbeats 4000000 in
set_option maxRecDepth 100000 in
theorem c_X5_unlike {l : Launch} {D : va_G} {cI cA : ClassId} {ad : Nat → Nat} {a1 : Int} {w w1 : hg_W} {r1 : Int} (h : fX5_unlike w a1 = some (w1, r1)) : hg_Mi l yX5_unlike wxX5_unlike rmX5_unlike D cI cA ad 1 w [.ref (ad 0), .int (hg_I a1)] w1 r1 := by
  refine z_meti cX5_unlike 4 (some .int) (by decide) (Nat.le_of_ble_eq_true rfl) ?_
  intro p e s m args below meth c A B hr
  exact rX5_unlike_E B hr h
abbrev wxX5_judge : List Cond := Cond.code yX5_judge cX5_judge 3 (some .int) :: wsL_law
def fX5_judge (w : hg_W) (a1 : Int) : Option (hg_W × Int) :=
  hg_bd (fX5_sheetWrong w a1) fun w1 v2 =>
  if wr v2 = 0 then
    (
      hg_bd (fX5_unlike w1 a1) fun w4 v5 =>
      some (w4, wr v5)
    )
  else
    some (w1, wr v2)
set_option maxHeartbeats 4000000 in
set_option maxRecDepth 100000 in
abbrev rmX5_judge : Room := { frames := 9, cells := 0, slots := 0, locals := 209 }
set_option maxHeartbeats 4000000 in
set_option maxRecDepth 100000 in
theorem rX5_judge_E (B : hg_B p s m args meth c cX5_judge RX5 wsL_law 3 D cI cA ad 1 A) (hr : meth.sig.returnType = (some .int)) {a1 : Int} {w1 : hg_W} {r1 : Int} {w : hg_W} (h : fX5_judge w a1 = some (w1, r1)) : hg_At p l e (rmX5_judge) s m args below meth c D cI cA ad 1 A (MQ below (hg_Qi D cI cA ad 1 A w1 r1) args s 0 0 A) 3 w [(0, .ref (ad 0)), (1, .int (hg_I a1))] 0 [] := by
  unfold fX5_judge at h
  refine z_aload_n B 0 dX5_judge_0 rfl rfl ?_
  refine z_iload_n B 1 dX5_judge_1 rfl rfl ?_
  obtain ⟨w1, v2, q3, h⟩ := hg_bd_some h
  refine z_calliV (a := 0) (ci := 5) (N := 37) (T := TX5) (C := RX5) (As := [.int (hg_I a1)]) (n := 1) B dX5_judge_2 (c_X5_sheetWrong q3) (gl_V (wl_29 9 rfl) (wl_29 10 rfl) (wl_29 11 rfl) (wl_1 5 rfl) (wl_29 12 rfl)) rfl ⟨rfl, rfl⟩ (by decide +kernel) ⟨Nat.le_of_ble_eq_true rfl, Nat.le_of_ble_eq_true rfl⟩ (by decide) rfl (by decide) rfl rfl rfl (Nat.le_of_ble_eq_true rfl) ?_
  refine z_istore_n B [(2, .int (hg_I v2)), (0, .ref (ad 0)), (1, .int (hg_I a1))] dX5_judge_5 rfl (by decide) rfl ?_
  refine z_iload_n B 0 dX5_judge_6 rfl rfl ?_
  refine z_if_ne (tgt := 18) B dX5_judge_7 (by decide) h (fun h => ?_) (fun h => ?_)
  · refine z_iload_n B 0 dX5_judge_18 rfl rfl ?_
    exact z_iret B hr dX5_judge_19 h
  · refine z_aload_n B 1 dX5_judge_10 rfl rfl ?_
    refine z_iload_n B 2 dX5_judge_11 rfl rfl ?_
    obtain ⟨w4, v5, q6, h⟩ := hg_bd_some h
    refine z_calliV (a := 0) (ci := 5) (N := 37) (T := TX5) (C := RX5) (As := [.int (hg_I a1)]) (n := 1) B dX5_judge_12 (c_X5_unlike q6) (gl_V (wl_29 13 rfl) (wl_29 14 rfl) (wl_29 15 rfl) (wl_1 5 rfl) (wl_29 16 rfl)) rfl ⟨rfl, rfl⟩ (by decide +kernel) ⟨Nat.le_of_ble_eq_true rfl, Nat.le_of_ble_eq_true rfl⟩ (by decide) rfl (by decide) rfl rfl rfl (Nat.le_of_ble_eq_true rfl) ?_
    refine z_goto (tgt := 19) B dX5_judge_15 (by decide) ?_
    exact z_iret B hr dX5_judge_19 h
set_option maxHeartbeats 4000000 in
set_option maxRecDepth 100000 in
theorem c_X5_judge {l : Launch} {D : va_G} {cI cA : ClassId} {ad : Nat → Nat} {a1 : Int} {w w1 : hg_W} {r1 : Int} (h : fX5_judge w a1 = some (w1, r1)) : hg_Mi l yX5_judge wxX5_judge rmX5_judge D cI cA ad 1 w [.ref (ad 0), .int (hg_I a1)] w1 r1 := by
  refine z_meti cX5_judge 3 (some .int) (by decide) (Nat.le_of_ble_eq_true rfl) ?_
  intro p e s m args below meth c A B hr
  exact rX5_judge_E B hr h
abbrev wxX5_kinds : List Cond := Cond.code yX5_kinds cX5_kinds 9 (some .int) :: wsL_law
def fX5_kinds_130 (K60 : hg_W → Int → Int → Int → Int → Int → Int → Int → Option (hg_W × Int))  (w : hg_W) (x1 : Int) (x2 : Int) (x3 : Int) (x5 : Int) (x6 : Int) (x8 : Int) (s0 : Int) (s1 : Int) : Option (hg_W × Int) :=
  K60 w x1 x2 x3 x5 x6 (hg_or s0 s1) (x8 + 1)
def fX5_kinds_110 (K60 : hg_W → Int → Int → Int → Int → Int → Int → Int → Option (hg_W × Int))  (w : hg_W) (x1 : Int) (x2 : Int) (x3 : Int) (x5 : Int) (x6 : Int) (x7 : Int) (x8 : Int) (s1 : Int) (s2 : Int) : Option (hg_W × Int) :=
  (hg_as 1 w 2 s1 s2).bind fun w1 =>
  hg_bd (fX5_unlike w1 x1) fun w3 v4 =>
  if wr v4 = wr (-1) then
    (
      fX5_kinds_130 K60 w3 x1 x2 x3 x5 x6 x8 x7 (hg_shl 1 x8)
    )
  else
    fX5_kinds_130 K60 w3 x1 x2 x3 x5 x6 x8 x7 0
def fX5_kinds_92 (K60 : hg_W → Int → Int → Int → Int → Int → Int → Int → Option (hg_W × Int))  (w : hg_W) (x1 : Int) (x2 : Int) (x3 : Int) (x5 : Int) (x6 : Int) (x7 : Int) (x8 : Int) (s1 : Int) (s2 : Int) : Option (hg_W × Int) :=
  (hg_as 1 w 1 s1 s2).bind fun w1 =>
  if wr x3 = wr 1 then
    (
      fX5_kinds_110 K60 w1 x1 x2 x3 x5 x6 x7 x8 x2 x8
    )
  else
    fX5_kinds_110 K60 w1 x1 x2 x3 x5 x6 x7 x8 x2 x6
def fX5_kinds_73 (K60 : hg_W → Int → Int → Int → Int → Int → Int → Int → Option (hg_W × Int))  (w : hg_W) (x1 : Int) (x2 : Int) (x3 : Int) (x5 : Int) (x6 : Int) (x7 : Int) (x8 : Int) (s0 : Int) (s1 : Int) : Option (hg_W × Int) :=
  if wr s1 ≤ wr s0 then
    (
      (hg_as 1 w 1 x2 x5).bind fun w1 =>
      (hg_as 1 w1 2 x2 x6).bind fun w3 =>
      some (w3, wr x7)
    )
  else
    if wr x3 = 0 then
      (
        fX5_kinds_92 K60 w x1 x2 x3 x5 x6 x7 x8 x2 x8
      )
    else
      fX5_kinds_92 K60 w x1 x2 x3 x5 x6 x7 x8 x2 x5
def fX5_kinds_60   : Nat → hg_W → Int → Int → Int → Int → Int → Int → Int → Option (hg_W × Int)
  | 0, _, _, _, _, _, _, _, _ => none
  | n + 1, w, x1, x2, x3, x5, x6, x7, x8 =>
    if wr x3 = 0 then
      (
        fX5_kinds_73 (fX5_kinds_60 n) w x1 x2 x3 x5 x6 x7 x8 x8 6
      )
    else
      fX5_kinds_73 (fX5_kinds_60 n) w x1 x2 x3 x5 x6 x7 x8 x8 10
def fX5_kinds (w : hg_W) (a1 : Int) (a2 : Int) (a3 : Int) : Option (hg_W × Int) :=
  hg_bd (fX5_sheetWrong w a1) fun w1 v2 =>
  if wr v2 = 0 then
    (
      hg_bd (fX5_isOne w1 a2) fun w4 v5 =>
      if wr v5 = 0 then
        (
          some (w4, wr (-5))
        )
      else
        hg_bd (fX5_in w4 a3 0 1) fun w7 v8 =>
        if wr v8 = 0 then
          (
            some (w7, wr (-7))
          )
        else
          (hg_ag 1 w7 1 a2).bind fun v10 =>
          (hg_ag 1 w7 2 a2).bind fun v12 =>
          fX5_kinds_60 hg_F w7 a1 a2 a3 v10 v12 0 0
    )
  else
    some (w1, wr v2)
set_option maxHeartbeats 4000000 in
set_option maxRecDepth 100000 in
abbrev rmX5_kinds : Room := { frames := 9, cells := 0, slots := 0, locals := 209 }
set_option maxHeartbeats 4000000 in
set_option maxRecDepth 100000 in
theorem rX5_kinds_130 (B : hg_B p s m args meth c cX5_kinds RX5 wsL_law 9 D cI cA ad 1 A) (hr : meth.sig.returnType = (some .int)) {w1 : hg_W} {r1 : Int} {K60 : hg_W → Int → Int → Int → Int → Int → Int → Int → Option (hg_W × Int)} (hK60 : ∀ (w : hg_W) (x1 : Int) (x2 : Int) (x3 : Int) (x5 : Int) (x6 : Int) (x7 : Int) (x8 : Int), K60 w x1 x2 x3 x5 x6 x7 x8 = some (w1, r1) → hg_At p l e (rmX5_kinds) s m args below meth c D cI cA ad 1 A (MQ below (hg_Qi D cI cA ad 1 A w1 r1) args s 0 0 A) 9 w [(0, .ref (ad 0)), (1, .int (hg_I x1)), (2, .int (hg_I x2)), (3, .int (hg_I x3)), (5, .int (hg_I x5)), (6, .int (hg_I x6)), (7, .int (hg_I x7)), (8, .int (hg_I x8))] 60 []) : ∀ (w : hg_W) (x1 : Int) (x2 : Int) (x3 : Int) (x5 : Int) (x6 : Int) (x8 : Int) (s0 : Int) (s1 : Int), fX5_kinds_130 K60 w x1 x2 x3 x5 x6 x8 s0 s1 = some (w1, r1) → hg_At p l e (rmX5_kinds) s m args below meth c D cI cA ad 1 A (MQ below (hg_Qi D cI cA ad 1 A w1 r1) args s 0 0 A) 9 w [(0, .ref (ad 0)), (1, .int (hg_I x1)), (2, .int (hg_I x2)), (3, .int (hg_I x3)), (5, .int (hg_I x5)), (6, .int (hg_I x6)), (8, .int (hg_I x8))] 130 [.int (hg_I s1), .int (hg_I s0)] := by
  intro w x1 x2 x3 x5 x6 x8 s0 s1 h
  unfold fX5_kinds_130 at h
  refine z_ior B dX5_kinds_130 ?_
  refine z_istore B [(7, .int (hg_I (hg_or s0 s1))), (0, .ref (ad 0)), (1, .int (hg_I x1)), (2, .int (hg_I x2)), (3, .int (hg_I x3)), (5, .int (hg_I x5)), (6, .int (hg_I x6)), (8, .int (hg_I x8))] dX5_kinds_131 (by decide) rfl ?_
  refine z_iinc B 7 [(8, .int (hg_I (x8 + 1))), (7, .int (hg_I (hg_or s0 s1))), (0, .ref (ad 0)), (1, .int (hg_I x1)), (2, .int (hg_I x2)), (3, .int (hg_I x3)), (5, .int (hg_I x5)), (6, .int (hg_I x6))] dX5_kinds_133 rfl (by decide) rfl ?_
  refine z_goto (tgt := 60) B dX5_kinds_136 (by decide) ?_
  refine z_lv (lv' := [(0, .ref (ad 0)), (1, .int (hg_I x1)), (2, .int (hg_I x2)), (3, .int (hg_I x3)), (5, .int (hg_I x5)), (6, .int (hg_I x6)), (7, .int (hg_I (hg_or s0 s1))), (8, .int (hg_I (x8 + 1)))]) B [2, 3, 4, 5, 6, 7, 1, 0] rfl ?_
  exact hK60 _ _ _ _ _ _ _ _ h
set_option maxHeartbeats 4000000 in
set_option maxRecDepth 100000 in
theorem rX5_kinds_110 (B : hg_B p s m args meth c cX5_kinds RX5 wsL_law 9 D cI cA ad 1 A) (hr : meth.sig.returnType = (some .int)) {w1 : hg_W} {r1 : Int} {K60 : hg_W → Int → Int → Int → Int → Int → Int → Int → Option (hg_W × Int)} (hK60 : ∀ (w : hg_W) (x1 : Int) (x2 : Int) (x3 : Int) (x5 : Int) (x6 : Int) (x7 : Int) (x8 : Int), K60 w x1 x2 x3 x5 x6 x7 x8 = some (w1, r1) → hg_At p l e (rmX5_kinds) s m args below meth c D cI cA ad 1 A (MQ below (hg_Qi D cI cA ad 1 A w1 r1) args s 0 0 A) 9 w [(0, .ref (ad 0)), (1, .int (hg_I x1)), (2, .int (hg_I x2)), (3, .int (hg_I x3)), (5, .int (hg_I x5)), (6, .int (hg_I x6)), (7, .int (hg_I x7)), (8, .int (hg_I x8))] 60 []) : ∀ (w : hg_W) (x1 : Int) (x2 : Int) (x3 : Int) (x5 : Int) (x6 : Int) (x7 : Int) (x8 : Int) (s1 : Int) (s2 : Int), fX5_kinds_110 K60 w x1 x2 x3 x5 x6 x7 x8 s1 s2 = some (w1, r1) → hg_At p l e (rmX5_kinds) s m args below meth c D cI cA ad 1 A (MQ below (hg_Qi D cI cA ad 1 A w1 r1) args s 0 0 A) 9 w [(0, .ref (ad 0)), (1, .int (hg_I x1)), (2, .int (hg_I x2)), (3, .int (hg_I x3)), (5, .int (hg_I x5)), (6, .int (hg_I x6)), (7, .int (hg_I x7)), (8, .int (hg_I x8))] 110 [.int (hg_I s2), .int (hg_I s1), .ref (ad 2)] := by
  intro w x1 x2 x3 x5 x6 x7 x8 s1 s2 h
  unfold fX5_kinds_110 at h
  obtain ⟨w1, q2, h⟩ := Option.bind_eq_some_iff.mp h
  refine z_iast (Or.inr rfl) B dX5_kinds_110 q2 ?_
  refine z_iload B 6 dX5_kinds_111 rfl ?_
  refine z_aload_n B 0 dX5_kinds_113 rfl rfl ?_
  refine z_iload_n B 1 dX5_kinds_114 rfl rfl ?_
  obtain ⟨w3, v4, q5, h⟩ := hg_bd_some h
  refine z_calliV (a := 0) (ci := 5) (N := 37) (T := TX5) (C := RX5) (As := [.int (hg_I x1)]) (n := 1) B dX5_kinds_115 (c_X5_unlike q5) (gl_V (wl_29 13 rfl) (wl_29 14 rfl) (wl_29 15 rfl) (wl_1 5 rfl) (wl_29 16 rfl)) rfl ⟨rfl, rfl⟩ (by decide +kernel) ⟨Nat.le_of_ble_eq_true rfl, Nat.le_of_ble_eq_true rfl⟩ (by decide) rfl (by decide) rfl rfl rfl (Nat.le_of_ble_eq_true rfl) ?_
  refine z_iconst B dX5_kinds_118 ?_
  refine z_icmp_ne (tgt := 129) B dX5_kinds_119 (by decide) h (fun h => ?_) (fun h => ?_)
  · refine z_iconst B dX5_kinds_129 ?_
    refine z_lv (lv' := [(0, .ref (ad 0)), (1, .int (hg_I x1)), (2, .int (hg_I x2)), (3, .int (hg_I x3)), (5, .int (hg_I x5)), (6, .int (hg_I x6)), (8, .int (hg_I x8))]) B [0, 1, 2, 3, 4, 5, 7] rfl ?_
    exact rX5_kinds_130 B hr hK60 _ _ _ _ _ _ _ _ _ h
  · refine z_iconst B dX5_kinds_122 ?_
    refine z_iload B 7 dX5_kinds_123 rfl ?_
    refine z_ishl B dX5_kinds_125 ?_
    refine z_goto (tgt := 130) B dX5_kinds_126 (by decide) ?_
    refine z_lv (lv' := [(0, .ref (ad 0)), (1, .int (hg_I x1)), (2, .int (hg_I x2)), (3, .int (hg_I x3)), (5, .int (hg_I x5)), (6, .int (hg_I x6)), (8, .int (hg_I x8))]) B [0, 1, 2, 3, 4, 5, 7] rfl ?_
    exact rX5_kinds_130 B hr hK60 _ _ _ _ _ _ _ _ _ h
set_option maxHeartbeats 4000000 in
set_option maxRecDepth 100000 in
theorem rX5_kinds_92 (B : hg_B p s m args meth c cX5_kinds RX5 wsL_law 9 D cI cA ad 1 A) (hr : meth.sig.returnType = (some .int)) {w1 : hg_W} {r1 : Int} {K60 : hg_W → Int → Int → Int → Int → Int → Int → Int → Option (hg_W × Int)} (hK60 : ∀ (w : hg_W) (x1 : Int) (x2 : Int) (x3 : Int) (x5 : Int) (x6 : Int) (x7 : Int) (x8 : Int), K60 w x1 x2 x3 x5 x6 x7 x8 = some (w1, r1) → hg_At p l e (rmX5_kinds) s m args below meth c D cI cA ad 1 A (MQ below (hg_Qi D cI cA ad 1 A w1 r1) args s 0 0 A) 9 w [(0, .ref (ad 0)), (1, .int (hg_I x1)), (2, .int (hg_I x2)), (3, .int (hg_I x3)), (5, .int (hg_I x5)), (6, .int (hg_I x6)), (7, .int (hg_I x7)), (8, .int (hg_I x8))] 60 []) : ∀ (w : hg_W) (x1 : Int) (x2 : Int) (x3 : Int) (x5 : Int) (x6 : Int) (x7 : Int) (x8 : Int) (s1 : Int) (s2 : Int), fX5_kinds_92 K60 w x1 x2 x3 x5 x6 x7 x8 s1 s2 = some (w1, r1) → hg_At p l e (rmX5_kinds) s m args below meth c D cI cA ad 1 A (MQ below (hg_Qi D cI cA ad 1 A w1 r1) args s 0 0 A) 9 w [(0, .ref (ad 0)), (1, .int (hg_I x1)), (2, .int (hg_I x2)), (3, .int (hg_I x3)), (5, .int (hg_I x5)), (6, .int (hg_I x6)), (7, .int (hg_I x7)), (8, .int (hg_I x8))] 92 [.int (hg_I s2), .int (hg_I s1), .ref (ad 1)] := by
  intro w x1 x2 x3 x5 x6 x7 x8 s1 s2 h
  unfold fX5_kinds_92 at h
  obtain ⟨w1, q2, h⟩ := Option.bind_eq_some_iff.mp h
  refine z_iast (Or.inr rfl) B dX5_kinds_92 q2 ?_
  refine z_aload_n B 0 dX5_kinds_93 rfl rfl ?_
  refine z_get5 (v := .ref (ad 2)) B 2 dX5_kinds_94 inlX5 (by decide) rfl (by decide) (wl_4 3 rfl) rfl rfl ?_
  refine z_iload_n B 2 dX5_kinds_97 rfl rfl ?_
  refine z_iload_n B 3 dX5_kinds_98 rfl rfl ?_
  refine z_iconst B dX5_kinds_99 ?_
  refine z_icmp_ne (tgt := 108) B dX5_kinds_100 (by decide) h (fun h => ?_) (fun h => ?_)
  · refine z_iload B 5 dX5_kinds_108 rfl ?_
    exact rX5_kinds_110 B hr hK60 _ _ _ _ _ _ _ _ _ _ h
  · refine z_iload B 7 dX5_kinds_103 rfl ?_
    refine z_goto (tgt := 110) B dX5_kinds_105 (by decide) ?_
    exact rX5_kinds_110 B hr hK60 _ _ _ _ _ _ _ _ _ _ h
set_option maxHeartbeats 4000000 in
set_option maxRecDepth 100000 in
theorem rX5_kinds_73 (B : hg_B p s m args meth c cX5_kinds RX5 wsL_law 9 D cI cA ad 1 A) (hr : meth.sig.returnType = (some .int)) {w1 : hg_W} {r1 : Int} {K60 : hg_W → Int → Int → Int → Int → Int → Int → Int → Option (hg_W × Int)} (hK60 : ∀ (w : hg_W) (x1 : Int) (x2 : Int) (x3 : Int) (x5 : Int) (x6 : Int) (x7 : Int) (x8 : Int), K60 w x1 x2 x3 x5 x6 x7 x8 = some (w1, r1) → hg_At p l e (rmX5_kinds) s m args below meth c D cI cA ad 1 A (MQ below (hg_Qi D cI cA ad 1 A w1 r1) args s 0 0 A) 9 w [(0, .ref (ad 0)), (1, .int (hg_I x1)), (2, .int (hg_I x2)), (3, .int (hg_I x3)), (5, .int (hg_I x5)), (6, .int (hg_I x6)), (7, .int (hg_I x7)), (8, .int (hg_I x8))] 60 []) : ∀ (w : hg_W) (x1 : Int) (x2 : Int) (x3 : Int) (x5 : Int) (x6 : Int) (x7 : Int) (x8 : Int) (s0 : Int) (s1 : Int), fX5_kinds_73 K60 w x1 x2 x3 x5 x6 x7 x8 s0 s1 = some (w1, r1) → hg_At p l e (rmX5_kinds) s m args below meth c D cI cA ad 1 A (MQ below (hg_Qi D cI cA ad 1 A w1 r1) args s 0 0 A) 9 w [(0, .ref (ad 0)), (1, .int (hg_I x1)), (2, .int (hg_I x2)), (3, .int (hg_I x3)), (5, .int (hg_I x5)), (6, .int (hg_I x6)), (7, .int (hg_I x7)), (8, .int (hg_I x8))] 73 [.int (hg_I s1), .int (hg_I s0)] := by
  intro w x1 x2 x3 x5 x6 x7 x8 s0 s1 h
  unfold fX5_kinds_73 at h
  refine z_icmp_ge (tgt := 139) B dX5_kinds_73 (by decide) h (fun h => ?_) (fun h => ?_)
  · refine z_aload_n B 0 dX5_kinds_139 rfl rfl ?_
    refine z_get5 (v := .ref (ad 1)) B 1 dX5_kinds_140 inlX5 (by decide) rfl (by decide) (wl_4 2 rfl) rfl rfl ?_
    refine z_iload_n B 2 dX5_kinds_143 rfl rfl ?_
    refine z_iload B 4 dX5_kinds_144 rfl ?_
    obtain ⟨w1, q2, h⟩ := Option.bind_eq_some_iff.mp h
    refine z_iast (Or.inr rfl) B dX5_kinds_146 q2 ?_
    refine z_aload_n B 0 dX5_kinds_147 rfl rfl ?_
    refine z_get5 (v := .ref (ad 2)) B 2 dX5_kinds_148 inlX5 (by decide) rfl (by decide) (wl_4 3 rfl) rfl rfl ?_
    refine z_iload_n B 2 dX5_kinds_151 rfl rfl ?_
    refine z_iload B 5 dX5_kinds_152 rfl ?_
    obtain ⟨w3, q4, h⟩ := Option.bind_eq_some_iff.mp h
    refine z_iast (Or.inr rfl) B dX5_kinds_154 q4 ?_
    refine z_iload B 6 dX5_kinds_155 rfl ?_
    exact z_iret B hr dX5_kinds_157 h
  · refine z_aload_n B 0 dX5_kinds_76 rfl rfl ?_
    refine z_get5 (v := .ref (ad 1)) B 1 dX5_kinds_77 inlX5 (by decide) rfl (by decide) (wl_4 2 rfl) rfl rfl ?_
    refine z_iload_n B 2 dX5_kinds_80 rfl rfl ?_
    refine z_iload_n B 3 dX5_kinds_81 rfl rfl ?_
    refine z_if_ne (tgt := 90) B dX5_kinds_82 (by decide) h (fun h => ?_) (fun h => ?_)
    · refine z_iload B 4 dX5_kinds_90 rfl ?_
      exact rX5_kinds_92 B hr hK60 _ _ _ _ _ _ _ _ _ _ h
    · refine z_iload B 7 dX5_kinds_85 rfl ?_
      refine z_goto (tgt := 92) B dX5_kinds_87 (by decide) ?_
      exact rX5_kinds_92 B hr hK60 _ _ _ _ _ _ _ _ _ _ h
set_option maxHeartbeats 4000000 in
set_option maxRecDepth 100000 in
theorem rX5_kinds_60 (B : hg_B p s m args meth c cX5_kinds RX5 wsL_law 9 D cI cA ad 1 A) (hr : meth.sig.returnType = (some .int)) {w1 : hg_W} {r1 : Int} : ∀ (n : Nat), ∀ (w : hg_W) (x1 : Int) (x2 : Int) (x3 : Int) (x5 : Int) (x6 : Int) (x7 : Int) (x8 : Int), fX5_kinds_60 n w x1 x2 x3 x5 x6 x7 x8 = some (w1, r1) → hg_At p l e (rmX5_kinds) s m args below meth c D cI cA ad 1 A (MQ below (hg_Qi D cI cA ad 1 A w1 r1) args s 0 0 A) 9 w [(0, .ref (ad 0)), (1, .int (hg_I x1)), (2, .int (hg_I x2)), (3, .int (hg_I x3)), (5, .int (hg_I x5)), (6, .int (hg_I x6)), (7, .int (hg_I x7)), (8, .int (hg_I x8))] 60 [] := by
  intro n
  induction n with
  | zero =>
    intro w x1 x2 x3 x5 x6 x7 x8 h
    cases h
  | succ n ih =>
    intro w x1 x2 x3 x5 x6 x7 x8 h
    simp only [fX5_kinds_60] at h
    refine z_iload B 7 dX5_kinds_60 rfl ?_
    refine z_iload_n B 3 dX5_kinds_62 rfl rfl ?_
    refine z_if_ne (tgt := 71) B dX5_kinds_63 (by decide) h (fun h => ?_) (fun h => ?_)
    · refine z_bipush B dX5_kinds_71 (by decide) ?_
      exact rX5_kinds_73 B hr ih _ _ _ _ _ _ _ _ _ _ h
    · refine z_bipush B dX5_kinds_66 (by decide) ?_
      refine z_goto (tgt := 73) B dX5_kinds_68 (by decide) ?_
      exact rX5_kinds_73 B hr ih _ _ _ _ _ _ _ _ _ _ h
set_option maxHeartbeats 4000000 in
set_option maxRecDepth 100000 in
theorem rX5_kinds_E (B : hg_B p s m args meth c cX5_kinds RX5 wsL_law 9 D cI cA ad 1 A) (hr : meth.sig.returnType = (some .int)) {a1 : Int} {a2 : Int} {a3 : Int} {w1 : hg_W} {r1 : Int} {w : hg_W} (h : fX5_kinds w a1 a2 a3 = some (w1, r1)) : hg_At p l e (rmX5_kinds) s m args below meth c D cI cA ad 1 A (MQ below (hg_Qi D cI cA ad 1 A w1 r1) args s 0 0 A) 9 w [(0, .ref (ad 0)), (1, .int (hg_I a1)), (2, .int (hg_I a2)), (3, .int (hg_I a3))] 0 [] := by
  unfold fX5_kinds at h
  refine z_aload_n B 0 dX5_kinds_0 rfl rfl ?_
  refine z_iload_n B 1 dX5_kinds_1 rfl rfl ?_
  obtain ⟨w1, v2, q3, h⟩ := hg_bd_some h
  refine z_calliV (a := 0) (ci := 5) (N := 37) (T := TX5) (C := RX5) (As := [.int (hg_I a1)]) (n := 1) B dX5_kinds_2 (c_X5_sheetWrong q3) (gl_V (wl_29 9 rfl) (wl_29 10 rfl) (wl_29 11 rfl) (wl_1 5 rfl) (wl_29 12 rfl)) rfl ⟨rfl, rfl⟩ (by decide +kernel) ⟨Nat.le_of_ble_eq_true rfl, Nat.le_of_ble_eq_true rfl⟩ (by decide) rfl (by decide) rfl rfl rfl (Nat.le_of_ble_eq_true rfl) ?_
  refine z_istore B [(4, .int (hg_I v2)), (0, .ref (ad 0)), (1, .int (hg_I a1)), (2, .int (hg_I a2)), (3, .int (hg_I a3))] dX5_kinds_5 (by decide) rfl ?_
  refine z_iload B 0 dX5_kinds_7 rfl ?_
  refine z_if_eq (tgt := 15) B dX5_kinds_9 (by decide) h (fun h => ?_) (fun h => ?_)
  · refine z_aload_n B 1 dX5_kinds_15 rfl rfl ?_
    refine z_iload_n B 3 dX5_kinds_16 rfl rfl ?_
    obtain ⟨w4, v5, q6, h⟩ := hg_bd_some h
    refine z_calliV (a := 0) (ci := 5) (N := 37) (T := TX5) (C := RX5) (As := [.int (hg_I a2)]) (n := 1) B dX5_kinds_17 (c_X5_isOne q6) (gl_V (wl_17 2 rfl) (wl_17 3 rfl) (wl_17 4 rfl) (wl_1 5 rfl) (wl_17 5 rfl)) rfl ⟨rfl, rfl⟩ (by decide +kernel) ⟨Nat.le_of_ble_eq_true rfl, Nat.le_of_ble_eq_true rfl⟩ (by decide) rfl (by decide) rfl rfl rfl (Nat.le_of_ble_eq_true rfl) ?_
    refine z_if_ne (tgt := 26) B dX5_kinds_20 (by decide) h (fun h => ?_) (fun h => ?_)
    · refine z_iload_n B 4 dX5_kinds_26 rfl rfl ?_
      refine z_iconst B dX5_kinds_27 ?_
      refine z_iconst B dX5_kinds_28 ?_
      obtain ⟨w7, v8, q9, h⟩ := hg_bd_some h
      refine z_calliS (As := [.int (hg_I a3), .int (hg_I 0), .int (hg_I 1)]) (n := 3) B dX5_kinds_29 (c_X5_in q9) (gl_S (wl_5 14 rfl) (wl_5 15 rfl) (wl_1 5 rfl) (wl_5 16 rfl)) rfl ⟨rfl, rfl⟩ (by decide +kernel) ⟨Nat.le_of_ble_eq_true rfl, Nat.le_of_ble_eq_true rfl⟩ rfl rfl (Nat.le_of_ble_eq_true rfl) ?_
      refine z_if_ne (tgt := 38) B dX5_kinds_32 (by decide) h (fun h => ?_) (fun h => ?_)
      · refine z_aload_n B 1 dX5_kinds_38 rfl rfl ?_
        refine z_get5 (v := .ref (ad 1)) B 1 dX5_kinds_39 inlX5 (by decide) rfl (by decide) (wl_4 2 rfl) rfl rfl ?_
        refine z_iload_n B 3 dX5_kinds_42 rfl rfl ?_
        obtain ⟨v10, q11, h⟩ := Option.bind_eq_some_iff.mp h
        refine z_iald (Or.inr rfl) B dX5_kinds_43 q11 ?_
        refine z_istore B [(5, .int (hg_I v10)), (4, .int (hg_I v2)), (0, .ref (ad 0)), (1, .int (hg_I a1)), (2, .int (hg_I a2)), (3, .int (hg_I a3))] dX5_kinds_44 (by decide) rfl ?_
        refine z_aload_n B 2 dX5_kinds_46 rfl rfl ?_
        refine z_get5 (v := .ref (ad 2)) B 2 dX5_kinds_47 inlX5 (by decide) rfl (by decide) (wl_4 3 rfl) rfl rfl ?_
        refine z_iload_n B 4 dX5_kinds_50 rfl rfl ?_
        obtain ⟨v12, q13, h⟩ := Option.bind_eq_some_iff.mp h
        refine z_iald (Or.inr rfl) B dX5_kinds_51 q13 ?_
        refine z_istore B [(6, .int (hg_I v12)), (5, .int (hg_I v10)), (4, .int (hg_I v2)), (0, .ref (ad 0)), (1, .int (hg_I a1)), (2, .int (hg_I a2)), (3, .int (hg_I a3))] dX5_kinds_52 (by decide) rfl ?_
        refine z_iconst B dX5_kinds_54 ?_
        refine z_istore B [(7, .int (hg_I 0)), (6, .int (hg_I v12)), (5, .int (hg_I v10)), (4, .int (hg_I v2)), (0, .ref (ad 0)), (1, .int (hg_I a1)), (2, .int (hg_I a2)), (3, .int (hg_I a3))] dX5_kinds_55 (by decide) rfl ?_
        refine z_iconst B dX5_kinds_57 ?_
        refine z_istore B [(8, .int (hg_I 0)), (7, .int (hg_I 0)), (6, .int (hg_I v12)), (5, .int (hg_I v10)), (4, .int (hg_I v2)), (0, .ref (ad 0)), (1, .int (hg_I a1)), (2, .int (hg_I a2)), (3, .int (hg_I a3))] dX5_kinds_58 (by decide) rfl ?_
        refine z_lv (lv' := [(0, .ref (ad 0)), (1, .int (hg_I a1)), (2, .int (hg_I a2)), (3, .int (hg_I a3)), (5, .int (hg_I v10)), (6, .int (hg_I v12)), (7, .int (hg_I 0)), (8, .int (hg_I 0))]) B [5, 6, 7, 8, 3, 2, 1, 0] rfl ?_
        exact rX5_kinds_60 B hr hg_F _ _ _ _ _ _ _ _ h
      · refine z_bipush B dX5_kinds_35 (by decide) ?_
        exact z_iret B hr dX5_kinds_37 h
    · refine z_bipush B dX5_kinds_23 (by decide) ?_
      exact z_iret B hr dX5_kinds_25 h
  · refine z_iload B 0 dX5_kinds_12 rfl ?_
    exact z_iret B hr dX5_kinds_14 h
set_option maxHeartbeats 4000000 in
set_option maxRecDepth 100000 in
theorem c_X5_kinds {l : Launch} {D : va_G} {cI cA : ClassId} {ad : Nat → Nat} {a1 : Int} {a2 : Int} {a3 : Int} {w w1 : hg_W} {r1 : Int} (h : fX5_kinds w a1 a2 a3 = some (w1, r1)) : hg_Mi l yX5_kinds wxX5_kinds rmX5_kinds D cI cA ad 1 w [.ref (ad 0), .int (hg_I a1), .int (hg_I a2), .int (hg_I a3)] w1 r1 := by
  refine z_meti cX5_kinds 9 (some .int) (by decide) (Nat.le_of_ble_eq_true rfl) ?_
  intro p e s m args below meth c A B hr
  exact rX5_kinds_E B hr h
abbrev wxX5_prides : List Cond := Cond.code yX5_prides cX5_prides 10 (some .int) :: wsL_law
def fX5_prides_123 (K57 : hg_W → Int → Int → Int → Int → Int → Int → Int → Option (hg_W × Int))  (w : hg_W) (x1 : Int) (x2 : Int) (x3 : Int) (x5 : Int) (x6 : Int) (x8 : Int) (s0 : Int) : Option (hg_W × Int) :=
  K57 w x1 x2 x3 x5 x6 s0 (x8 + 1)
def fX5_prides_121 (K57 : hg_W → Int → Int → Int → Int → Int → Int → Int → Option (hg_W × Int))  (w : hg_W) (x1 : Int) (x2 : Int) (x3 : Int) (x5 : Int) (x6 : Int) (x7 : Int) (x8 : Int) : Option (hg_W × Int) :=
  fX5_prides_123 K57 w x1 x2 x3 x5 x6 x8 x7
def fX5_prides_102 (K57 : hg_W → Int → Int → Int → Int → Int → Int → Int → Option (hg_W × Int))  (w : hg_W) (x1 : Int) (x2 : Int) (x3 : Int) (x5 : Int) (x7 : Int) (x8 : Int) (x9 : Int) (s0 : Int) (s1 : Int) : Option (hg_W × Int) :=
  if wr x9 = 0 then
    (
      fX5_prides_121 K57 w x1 x2 x3 x5 (s0 + s1) x7 x8
    )
  else
    if wr x7 = wr (-1) then
      (
        fX5_prides_123 K57 w x1 x2 x3 x5 (s0 + s1) x8 x8
      )
    else
      fX5_prides_121 K57 w x1 x2 x3 x5 (s0 + s1) x7 x8
def fX5_prides_88 (K57 : hg_W → Int → Int → Int → Int → Int → Int → Int → Option (hg_W × Int))  (w : hg_W) (x1 : Int) (x2 : Int) (x3 : Int) (x5 : Int) (x6 : Int) (x7 : Int) (x8 : Int) (s0 : Int) : Option (hg_W × Int) :=
  if wr s0 = 0 then
    (
      fX5_prides_102 K57 w x1 x2 x3 x5 x7 x8 s0 x6 0
    )
  else
    fX5_prides_102 K57 w x1 x2 x3 x5 x7 x8 s0 x6 1
def fX5_prides_57   : Nat → hg_W → Int → Int → Int → Int → Int → Int → Int → Option (hg_W × Int)
  | 0, _, _, _, _, _, _, _, _ => none
  | n + 1, w, x1, x2, x3, x5, x6, x7, x8 =>
    if wr 99 < wr x8 then
      (
        (hg_as 1 w 3 (3 * x2) x5).bind fun w1 =>
        if wr x3 = 0 then
          (
            some (w1, wr x6)
          )
        else
          some (w1, wr x7)
      )
    else
      (hg_as 1 w 3 (3 * x2) x8).bind fun w3 =>
      hg_bd (fX5_unlike w3 x1) fun w5 v6 =>
      if wr v6 = wr (-1) then
        (
          fX5_prides_88 (fX5_prides_57 n) w5 x1 x2 x3 x5 x6 x7 x8 1
        )
      else
        fX5_prides_88 (fX5_prides_57 n) w5 x1 x2 x3 x5 x6 x7 x8 0
def fX5_prides (w : hg_W) (a1 : Int) (a2 : Int) (a3 : Int) : Option (hg_W × Int) :=
  hg_bd (fX5_sheetWrong w a1) fun w1 v2 =>
  if wr v2 = 0 then
    (
      hg_bd (fX5_isOne w1 a2) fun w4 v5 =>
      if wr v5 = 0 then
        (
          some (w4, wr (-5))
        )
      else
        hg_bd (fX5_in w4 a3 0 1) fun w7 v8 =>
        if wr v8 = 0 then
          (
            some (w7, wr (-7))
          )
        else
          (hg_ag 1 w7 3 (3 * a2)).bind fun v10 =>
          fX5_prides_57 hg_F w7 a1 a2 a3 v10 0 (-1) 0
    )
  else
    some (w1, wr v2)
set_option maxHeartbeats 4000000 in
set_option maxRecDepth 100000 in
abbrev rmX5_prides : Room := { frames := 9, cells := 0, slots := 0, locals := 209 }
set_option maxHeartbeats 4000000 in
set_option maxRecDepth 100000 in
theorem rX5_prides_123 (B : hg_B p s m args meth c cX5_prides RX5 wsL_law 10 D cI cA ad 1 A) (hr : meth.sig.returnType = (some .int)) {w1 : hg_W} {r1 : Int} {K57 : hg_W → Int → Int → Int → Int → Int → Int → Int → Option (hg_W × Int)} (hK57 : ∀ (w : hg_W) (x1 : Int) (x2 : Int) (x3 : Int) (x5 : Int) (x6 : Int) (x7 : Int) (x8 : Int), K57 w x1 x2 x3 x5 x6 x7 x8 = some (w1, r1) → hg_At p l e (rmX5_prides) s m args below meth c D cI cA ad 1 A (MQ below (hg_Qi D cI cA ad 1 A w1 r1) args s 0 0 A) 10 w [(0, .ref (ad 0)), (1, .int (hg_I x1)), (2, .int (hg_I x2)), (3, .int (hg_I x3)), (5, .int (hg_I x5)), (6, .int (hg_I x6)), (7, .int (hg_I x7)), (8, .int (hg_I x8))] 57 []) : ∀ (w : hg_W) (x1 : Int) (x2 : Int) (x3 : Int) (x5 : Int) (x6 : Int) (x8 : Int) (s0 : Int), fX5_prides_123 K57 w x1 x2 x3 x5 x6 x8 s0 = some (w1, r1) → hg_At p l e (rmX5_prides) s m args below meth c D cI cA ad 1 A (MQ below (hg_Qi D cI cA ad 1 A w1 r1) args s 0 0 A) 10 w [(0, .ref (ad 0)), (1, .int (hg_I x1)), (2, .int (hg_I x2)), (3, .int (hg_I x3)), (5, .int (hg_I x5)), (6, .int (hg_I x6)), (8, .int (hg_I x8))] 123 [.int (hg_I s0)] := by
  intro w x1 x2 x3 x5 x6 x8 s0 h
  unfold fX5_prides_123 at h
  refine z_istore B [(7, .int (hg_I s0)), (0, .ref (ad 0)), (1, .int (hg_I x1)), (2, .int (hg_I x2)), (3, .int (hg_I x3)), (5, .int (hg_I x5)), (6, .int (hg_I x6)), (8, .int (hg_I x8))] dX5_prides_123 (by decide) rfl ?_
  refine z_iinc B 7 [(8, .int (hg_I (x8 + 1))), (7, .int (hg_I s0)), (0, .ref (ad 0)), (1, .int (hg_I x1)), (2, .int (hg_I x2)), (3, .int (hg_I x3)), (5, .int (hg_I x5)), (6, .int (hg_I x6))] dX5_prides_125 rfl (by decide) rfl ?_
  refine z_goto (tgt := 57) B dX5_prides_128 (by decide) ?_
  refine z_lv (lv' := [(0, .ref (ad 0)), (1, .int (hg_I x1)), (2, .int (hg_I x2)), (3, .int (hg_I x3)), (5, .int (hg_I x5)), (6, .int (hg_I x6)), (7, .int (hg_I s0)), (8, .int (hg_I (x8 + 1)))]) B [2, 3, 4, 5, 6, 7, 1, 0] rfl ?_
  exact hK57 _ _ _ _ _ _ _ _ h
set_option maxHeartbeats 4000000 in
set_option maxRecDepth 100000 in
theorem rX5_prides_121 (B : hg_B p s m args meth c cX5_prides RX5 wsL_law 10 D cI cA ad 1 A) (hr : meth.sig.returnType = (some .int)) {w1 : hg_W} {r1 : Int} {K57 : hg_W → Int → Int → Int → Int → Int → Int → Int → Option (hg_W × Int)} (hK57 : ∀ (w : hg_W) (x1 : Int) (x2 : Int) (x3 : Int) (x5 : Int) (x6 : Int) (x7 : Int) (x8 : Int), K57 w x1 x2 x3 x5 x6 x7 x8 = some (w1, r1) → hg_At p l e (rmX5_prides) s m args below meth c D cI cA ad 1 A (MQ below (hg_Qi D cI cA ad 1 A w1 r1) args s 0 0 A) 10 w [(0, .ref (ad 0)), (1, .int (hg_I x1)), (2, .int (hg_I x2)), (3, .int (hg_I x3)), (5, .int (hg_I x5)), (6, .int (hg_I x6)), (7, .int (hg_I x7)), (8, .int (hg_I x8))] 57 []) : ∀ (w : hg_W) (x1 : Int) (x2 : Int) (x3 : Int) (x5 : Int) (x6 : Int) (x7 : Int) (x8 : Int), fX5_prides_121 K57 w x1 x2 x3 x5 x6 x7 x8 = some (w1, r1) → hg_At p l e (rmX5_prides) s m args below meth c D cI cA ad 1 A (MQ below (hg_Qi D cI cA ad 1 A w1 r1) args s 0 0 A) 10 w [(0, .ref (ad 0)), (1, .int (hg_I x1)), (2, .int (hg_I x2)), (3, .int (hg_I x3)), (5, .int (hg_I x5)), (6, .int (hg_I x6)), (7, .int (hg_I x7)), (8, .int (hg_I x8))] 121 [] := by
  intro w x1 x2 x3 x5 x6 x7 x8 h
  unfold fX5_prides_121 at h
  refine z_iload B 6 dX5_prides_121 rfl ?_
  refine z_lv (lv' := [(0, .ref (ad 0)), (1, .int (hg_I x1)), (2, .int (hg_I x2)), (3, .int (hg_I x3)), (5, .int (hg_I x5)), (6, .int (hg_I x6)), (8, .int (hg_I x8))]) B [0, 1, 2, 3, 4, 5, 7] rfl ?_
  exact rX5_prides_123 B hr hK57 _ _ _ _ _ _ _ _ h
set_option maxHeartbeats 4000000 in
set_option maxRecDepth 100000 in
theorem rX5_prides_102 (B : hg_B p s m args meth c cX5_prides RX5 wsL_law 10 D cI cA ad 1 A) (hr : meth.sig.returnType = (some .int)) {w1 : hg_W} {r1 : Int} {K57 : hg_W → Int → Int → Int → Int → Int → Int → Int → Option (hg_W × Int)} (hK57 : ∀ (w : hg_W) (x1 : Int) (x2 : Int) (x3 : Int) (x5 : Int) (x6 : Int) (x7 : Int) (x8 : Int), K57 w x1 x2 x3 x5 x6 x7 x8 = some (w1, r1) → hg_At p l e (rmX5_prides) s m args below meth c D cI cA ad 1 A (MQ below (hg_Qi D cI cA ad 1 A w1 r1) args s 0 0 A) 10 w [(0, .ref (ad 0)), (1, .int (hg_I x1)), (2, .int (hg_I x2)), (3, .int (hg_I x3)), (5, .int (hg_I x5)), (6, .int (hg_I x6)), (7, .int (hg_I x7)), (8, .int (hg_I x8))] 57 []) : ∀ (w : hg_W) (x1 : Int) (x2 : Int) (x3 : Int) (x5 : Int) (x7 : Int) (x8 : Int) (x9 : Int) (s0 : Int) (s1 : Int), fX5_prides_102 K57 w x1 x2 x3 x5 x7 x8 x9 s0 s1 = some (w1, r1) → hg_At p l e (rmX5_prides) s m args below meth c D cI cA ad 1 A (MQ below (hg_Qi D cI cA ad 1 A w1 r1) args s 0 0 A) 10 w [(0, .ref (ad 0)), (1, .int (hg_I x1)), (2, .int (hg_I x2)), (3, .int (hg_I x3)), (5, .int (hg_I x5)), (7, .int (hg_I x7)), (8, .int (hg_I x8)), (9, .int (hg_I x9))] 102 [.int (hg_I s1), .int (hg_I s0)] := by
  intro w x1 x2 x3 x5 x7 x8 x9 s0 s1 h
  unfold fX5_prides_102 at h
  refine z_iadd B dX5_prides_102 ?_
  refine z_istore B [(6, .int (hg_I (s0 + s1))), (0, .ref (ad 0)), (1, .int (hg_I x1)), (2, .int (hg_I x2)), (3, .int (hg_I x3)), (5, .int (hg_I x5)), (7, .int (hg_I x7)), (8, .int (hg_I x8)), (9, .int (hg_I x9))] dX5_prides_103 (by decide) rfl ?_
  refine z_iload B 8 dX5_prides_105 rfl ?_
  refine z_if_eq (tgt := 121) B dX5_prides_107 (by decide) h (fun h => ?_) (fun h => ?_)
  · refine z_lv (lv' := [(0, .ref (ad 0)), (1, .int (hg_I x1)), (2, .int (hg_I x2)), (3, .int (hg_I x3)), (5, .int (hg_I x5)), (6, .int (hg_I (s0 + s1))), (7, .int (hg_I x7)), (8, .int (hg_I x8))]) B [1, 2, 3, 4, 5, 0, 6, 7] rfl ?_
    exact rX5_prides_121 B hr hK57 _ _ _ _ _ _ _ _ h
  · refine z_iload B 6 dX5_prides_110 rfl ?_
    refine z_iconst B dX5_prides_112 ?_
    refine z_icmp_ne (tgt := 121) B dX5_prides_113 (by decide) h (fun h => ?_) (fun h => ?_)
    · refine z_lv (lv' := [(0, .ref (ad 0)), (1, .int (hg_I x1)), (2, .int (hg_I x2)), (3, .int (hg_I x3)), (5, .int (hg_I x5)), (6, .int (hg_I (s0 + s1))), (7, .int (hg_I x7)), (8, .int (hg_I x8))]) B [1, 2, 3, 4, 5, 0, 6, 7] rfl ?_
      exact rX5_prides_121 B hr hK57 _ _ _ _ _ _ _ _ h
    · refine z_iload B 7 dX5_prides_116 rfl ?_
      refine z_goto (tgt := 123) B dX5_prides_118 (by decide) ?_
      refine z_lv (lv' := [(0, .ref (ad 0)), (1, .int (hg_I x1)), (2, .int (hg_I x2)), (3, .int (hg_I x3)), (5, .int (hg_I x5)), (6, .int (hg_I (s0 + s1))), (8, .int (hg_I x8))]) B [1, 2, 3, 4, 5, 0, 7] rfl ?_
      exact rX5_prides_123 B hr hK57 _ _ _ _ _ _ _ _ h
set_option maxHeartbeats 4000000 in
set_option maxRecDepth 100000 in
theorem rX5_prides_88 (B : hg_B p s m args meth c cX5_prides RX5 wsL_law 10 D cI cA ad 1 A) (hr : meth.sig.returnType = (some .int)) {w1 : hg_W} {r1 : Int} {K57 : hg_W → Int → Int → Int → Int → Int → Int → Int → Option (hg_W × Int)} (hK57 : ∀ (w : hg_W) (x1 : Int) (x2 : Int) (x3 : Int) (x5 : Int) (x6 : Int) (x7 : Int) (x8 : Int), K57 w x1 x2 x3 x5 x6 x7 x8 = some (w1, r1) → hg_At p l e (rmX5_prides) s m args below meth c D cI cA ad 1 A (MQ below (hg_Qi D cI cA ad 1 A w1 r1) args s 0 0 A) 10 w [(0, .ref (ad 0)), (1, .int (hg_I x1)), (2, .int (hg_I x2)), (3, .int (hg_I x3)), (5, .int (hg_I x5)), (6, .int (hg_I x6)), (7, .int (hg_I x7)), (8, .int (hg_I x8))] 57 []) : ∀ (w : hg_W) (x1 : Int) (x2 : Int) (x3 : Int) (x5 : Int) (x6 : Int) (x7 : Int) (x8 : Int) (s0 : Int), fX5_prides_88 K57 w x1 x2 x3 x5 x6 x7 x8 s0 = some (w1, r1) → hg_At p l e (rmX5_prides) s m args below meth c D cI cA ad 1 A (MQ below (hg_Qi D cI cA ad 1 A w1 r1) args s 0 0 A) 10 w [(0, .ref (ad 0)), (1, .int (hg_I x1)), (2, .int (hg_I x2)), (3, .int (hg_I x3)), (5, .int (hg_I x5)), (6, .int (hg_I x6)), (7, .int (hg_I x7)), (8, .int (hg_I x8))] 88 [.int (hg_I s0)] := by
  intro w x1 x2 x3 x5 x6 x7 x8 s0 h
  unfold fX5_prides_88 at h
  refine z_istore B [(9, .int (hg_I s0)), (0, .ref (ad 0)), (1, .int (hg_I x1)), (2, .int (hg_I x2)), (3, .int (hg_I x3)), (5, .int (hg_I x5)), (6, .int (hg_I x6)), (7, .int (hg_I x7)), (8, .int (hg_I x8))] dX5_prides_88 (by decide) rfl ?_
  refine z_iload B 6 dX5_prides_90 rfl ?_
  refine z_iload B 0 dX5_prides_92 rfl ?_
  refine z_if_eq (tgt := 101) B dX5_prides_94 (by decide) h (fun h => ?_) (fun h => ?_)
  · refine z_iconst B dX5_prides_101 ?_
    refine z_lv (lv' := [(0, .ref (ad 0)), (1, .int (hg_I x1)), (2, .int (hg_I x2)), (3, .int (hg_I x3)), (5, .int (hg_I x5)), (7, .int (hg_I x7)), (8, .int (hg_I x8)), (9, .int (hg_I s0))]) B [1, 2, 3, 4, 5, 7, 8, 0] rfl ?_
    exact rX5_prides_102 B hr hK57 _ _ _ _ _ _ _ _ _ _ h
  · refine z_iconst B dX5_prides_97 ?_
    refine z_goto (tgt := 102) B dX5_prides_98 (by decide) ?_
    refine z_lv (lv' := [(0, .ref (ad 0)), (1, .int (hg_I x1)), (2, .int (hg_I x2)), (3, .int (hg_I x3)), (5, .int (hg_I x5)), (7, .int (hg_I x7)), (8, .int (hg_I x8)), (9, .int (hg_I s0))]) B [1, 2, 3, 4, 5, 7, 8, 0] rfl ?_
    exact rX5_prides_102 B hr hK57 _ _ _ _ _ _ _ _ _ _ h
set_option maxHeartbeats 4000000 in
set_option maxRecDepth 100000 in
theorem rX5_prides_57 (B : hg_B p s m args meth c cX5_prides RX5 wsL_law 10 D cI cA ad 1 A) (hr : meth.sig.returnType = (some .int)) {w1 : hg_W} {r1 : Int} : ∀ (n : Nat), ∀ (w : hg_W) (x1 : Int) (x2 : Int) (x3 : Int) (x5 : Int) (x6 : Int) (x7 : Int) (x8 : Int), fX5_prides_57 n w x1 x2 x3 x5 x6 x7 x8 = some (w1, r1) → hg_At p l e (rmX5_prides) s m args below meth c D cI cA ad 1 A (MQ below (hg_Qi D cI cA ad 1 A w1 r1) args s 0 0 A) 10 w [(0, .ref (ad 0)), (1, .int (hg_I x1)), (2, .int (hg_I x2)), (3, .int (hg_I x3)), (5, .int (hg_I x5)), (6, .int (hg_I x6)), (7, .int (hg_I x7)), (8, .int (hg_I x8))] 57 [] := by
  intro n
  induction n with
  | zero =>
    intro w x1 x2 x3 x5 x6 x7 x8 h
    cases h
  | succ n ih =>
    intro w x1 x2 x3 x5 x6 x7 x8 h
    simp only [fX5_prides_57] at h
    refine z_iload B 7 dX5_prides_57 rfl ?_
    refine z_bipush B dX5_prides_59 (by decide) ?_
    refine z_icmp_gt (tgt := 131) B dX5_prides_61 (by decide) h (fun h => ?_) (fun h => ?_)
    · refine z_aload_n B 0 dX5_prides_131 rfl rfl ?_
      refine z_get5 (v := .ref (ad 3)) B 3 dX5_prides_132 inlX5 (by decide) rfl (by decide) (wl_4 4 rfl) rfl rfl ?_
      refine z_iconst B dX5_prides_135 ?_
      refine z_iload_n B 2 dX5_prides_136 rfl rfl ?_
      refine z_imul B dX5_prides_137 ?_
      refine z_iload B 4 dX5_prides_138 rfl ?_
      obtain ⟨w1, q2, h⟩ := Option.bind_eq_some_iff.mp h
      refine z_iast (Or.inr rfl) B dX5_prides_140 q2 ?_
      refine z_iload_n B 3 dX5_prides_141 rfl rfl ?_
      refine z_if_ne (tgt := 150) B dX5_prides_142 (by decide) h (fun h => ?_) (fun h => ?_)
      · refine z_iload B 6 dX5_prides_150 rfl ?_
        exact z_iret B hr dX5_prides_152 h
      · refine z_iload B 5 dX5_prides_145 rfl ?_
        refine z_goto (tgt := 152) B dX5_prides_147 (by decide) ?_
        exact z_iret B hr dX5_prides_152 h
    · refine z_aload_n B 0 dX5_prides_64 rfl rfl ?_
      refine z_get5 (v := .ref (ad 3)) B 3 dX5_prides_65 inlX5 (by decide) rfl (by decide) (wl_4 4 rfl) rfl rfl ?_
      refine z_iconst B dX5_prides_68 ?_
      refine z_iload_n B 2 dX5_prides_69 rfl rfl ?_
      refine z_imul B dX5_prides_70 ?_
      refine z_iload B 7 dX5_prides_71 rfl ?_
      obtain ⟨w3, q4, h⟩ := Option.bind_eq_some_iff.mp h
      refine z_iast (Or.inr rfl) B dX5_prides_73 q4 ?_
      refine z_aload_n B 0 dX5_prides_74 rfl rfl ?_
      refine z_iload_n B 1 dX5_prides_75 rfl rfl ?_
      obtain ⟨w5, v6, q7, h⟩ := hg_bd_some h
      refine z_calliV (a := 0) (ci := 5) (N := 37) (T := TX5) (C := RX5) (As := [.int (hg_I x1)]) (n := 1) B dX5_prides_76 (c_X5_unlike q7) (gl_V (wl_29 13 rfl) (wl_29 14 rfl) (wl_29 15 rfl) (wl_1 5 rfl) (wl_29 16 rfl)) rfl ⟨rfl, rfl⟩ (by decide +kernel) ⟨Nat.le_of_ble_eq_true rfl, Nat.le_of_ble_eq_true rfl⟩ (by decide) rfl (by decide) rfl rfl rfl (Nat.le_of_ble_eq_true rfl) ?_
      refine z_iconst B dX5_prides_79 ?_
      refine z_icmp_ne (tgt := 87) B dX5_prides_80 (by decide) h (fun h => ?_) (fun h => ?_)
      · refine z_iconst B dX5_prides_87 ?_
        exact rX5_prides_88 B hr ih _ _ _ _ _ _ _ _ _ h
      · refine z_iconst B dX5_prides_83 ?_
        refine z_goto (tgt := 88) B dX5_prides_84 (by decide) ?_
        exact rX5_prides_88 B hr ih _ _ _ _ _ _ _ _ _ h
set_option maxHeartbeats 4000000 in
set_option maxRecDepth 100000 in
theorem rX5_prides_E (B : hg_B p s m args meth c cX5_prides RX5 wsL_law 10 D cI cA ad 1 A) (hr : meth.sig.returnType = (some .int)) {a1 : Int} {a2 : Int} {a3 : Int} {w1 : hg_W} {r1 : Int} {w : hg_W} (h : fX5_prides w a1 a2 a3 = some (w1, r1)) : hg_At p l e (rmX5_prides) s m args below meth c D cI cA ad 1 A (MQ below (hg_Qi D cI cA ad 1 A w1 r1) args s 0 0 A) 10 w [(0, .ref (ad 0)), (1, .int (hg_I a1)), (2, .int (hg_I a2)), (3, .int (hg_I a3))] 0 [] := by
  unfold fX5_prides at h
  refine z_aload_n B 0 dX5_prides_0 rfl rfl ?_
  refine z_iload_n B 1 dX5_prides_1 rfl rfl ?_
  obtain ⟨w1, v2, q3, h⟩ := hg_bd_some h
  refine z_calliV (a := 0) (ci := 5) (N := 37) (T := TX5) (C := RX5) (As := [.int (hg_I a1)]) (n := 1) B dX5_prides_2 (c_X5_sheetWrong q3) (gl_V (wl_29 9 rfl) (wl_29 10 rfl) (wl_29 11 rfl) (wl_1 5 rfl) (wl_29 12 rfl)) rfl ⟨rfl, rfl⟩ (by decide +kernel) ⟨Nat.le_of_ble_eq_true rfl, Nat.le_of_ble_eq_true rfl⟩ (by decide) rfl (by decide) rfl rfl rfl (Nat.le_of_ble_eq_true rfl) ?_
  refine z_istore B [(4, .int (hg_I v2)), (0, .ref (ad 0)), (1, .int (hg_I a1)), (2, .int (hg_I a2)), (3, .int (hg_I a3))] dX5_prides_5 (by decide) rfl ?_
  refine z_iload B 0 dX5_prides_7 rfl ?_
  refine z_if_eq (tgt := 15) B dX5_prides_9 (by decide) h (fun h => ?_) (fun h => ?_)
  · refine z_aload_n B 1 dX5_prides_15 rfl rfl ?_
    refine z_iload_n B 3 dX5_prides_16 rfl rfl ?_
    obtain ⟨w4, v5, q6, h⟩ := hg_bd_some h
    refine z_calliV (a := 0) (ci := 5) (N := 37) (T := TX5) (C := RX5) (As := [.int (hg_I a2)]) (n := 1) B dX5_prides_17 (c_X5_isOne q6) (gl_V (wl_17 2 rfl) (wl_17 3 rfl) (wl_17 4 rfl) (wl_1 5 rfl) (wl_17 5 rfl)) rfl ⟨rfl, rfl⟩ (by decide +kernel) ⟨Nat.le_of_ble_eq_true rfl, Nat.le_of_ble_eq_true rfl⟩ (by decide) rfl (by decide) rfl rfl rfl (Nat.le_of_ble_eq_true rfl) ?_
    refine z_if_ne (tgt := 26) B dX5_prides_20 (by decide) h (fun h => ?_) (fun h => ?_)
    · refine z_iload_n B 4 dX5_prides_26 rfl rfl ?_
      refine z_iconst B dX5_prides_27 ?_
      refine z_iconst B dX5_prides_28 ?_
      obtain ⟨w7, v8, q9, h⟩ := hg_bd_some h
      refine z_calliS (As := [.int (hg_I a3), .int (hg_I 0), .int (hg_I 1)]) (n := 3) B dX5_prides_29 (c_X5_in q9) (gl_S (wl_5 14 rfl) (wl_5 15 rfl) (wl_1 5 rfl) (wl_5 16 rfl)) rfl ⟨rfl, rfl⟩ (by decide +kernel) ⟨Nat.le_of_ble_eq_true rfl, Nat.le_of_ble_eq_true rfl⟩ rfl rfl (Nat.le_of_ble_eq_true rfl) ?_
      refine z_if_ne (tgt := 38) B dX5_prides_32 (by decide) h (fun h => ?_) (fun h => ?_)
      · refine z_aload_n B 1 dX5_prides_38 rfl rfl ?_
        refine z_get5 (v := .ref (ad 3)) B 3 dX5_prides_39 inlX5 (by decide) rfl (by decide) (wl_4 4 rfl) rfl rfl ?_
        refine z_iconst B dX5_prides_42 ?_
        refine z_iload_n B 3 dX5_prides_43 rfl rfl ?_
        refine z_imul B dX5_prides_44 ?_
        obtain ⟨v10, q11, h⟩ := Option.bind_eq_some_iff.mp h
        refine z_iald (Or.inr rfl) B dX5_prides_45 q11 ?_
        refine z_istore B [(5, .int (hg_I v10)), (4, .int (hg_I v2)), (0, .ref (ad 0)), (1, .int (hg_I a1)), (2, .int (hg_I a2)), (3, .int (hg_I a3))] dX5_prides_46 (by decide) rfl ?_
        refine z_iconst B dX5_prides_48 ?_
        refine z_istore B [(6, .int (hg_I 0)), (5, .int (hg_I v10)), (4, .int (hg_I v2)), (0, .ref (ad 0)), (1, .int (hg_I a1)), (2, .int (hg_I a2)), (3, .int (hg_I a3))] dX5_prides_49 (by decide) rfl ?_
        refine z_iconst B dX5_prides_51 ?_
        refine z_istore B [(7, .int (hg_I (-1))), (6, .int (hg_I 0)), (5, .int (hg_I v10)), (4, .int (hg_I v2)), (0, .ref (ad 0)), (1, .int (hg_I a1)), (2, .int (hg_I a2)), (3, .int (hg_I a3))] dX5_prides_52 (by decide) rfl ?_
        refine z_iconst B dX5_prides_54 ?_
        refine z_istore B [(8, .int (hg_I 0)), (7, .int (hg_I (-1))), (6, .int (hg_I 0)), (5, .int (hg_I v10)), (4, .int (hg_I v2)), (0, .ref (ad 0)), (1, .int (hg_I a1)), (2, .int (hg_I a2)), (3, .int (hg_I a3))] dX5_prides_55 (by decide) rfl ?_
        refine z_lv (lv' := [(0, .ref (ad 0)), (1, .int (hg_I a1)), (2, .int (hg_I a2)), (3, .int (hg_I a3)), (5, .int (hg_I v10)), (6, .int (hg_I 0)), (7, .int (hg_I (-1))), (8, .int (hg_I 0))]) B [5, 6, 7, 8, 3, 2, 1, 0] rfl ?_
        exact rX5_prides_57 B hr hg_F _ _ _ _ _ _ _ _ h
      · refine z_bipush B dX5_prides_35 (by decide) ?_
        exact z_iret B hr dX5_prides_37 h
    · refine z_bipush B dX5_prides_23 (by decide) ?_
      exact z_iret B hr dX5_prides_25 h
  · refine z_iload B 0 dX5_prides_12 rfl ?_
    exact z_iret B hr dX5_prides_14 h
set_option maxHeartbeats 4000000 in
set_option maxRecDepth 100000 in
theorem c_X5_prides {l : Launch} {D : va_G} {cI cA : ClassId} {ad : Nat → Nat} {a1 : Int} {a2 : Int} {a3 : Int} {w w1 : hg_W} {r1 : Int} (h : fX5_prides w a1 a2 a3 = some (w1, r1)) : hg_Mi l yX5_prides wxX5_prides rmX5_prides D cI cA ad 1 w [.ref (ad 0), .int (hg_I a1), .int (hg_I a2), .int (hg_I a3)] w1 r1 := by
  refine z_meti cX5_prides 10 (some .int) (by decide) (Nat.le_of_ble_eq_true rfl) ?_
  intro p e s m args below meth c A B hr
  exact rX5_prides_E B hr h
abbrev wxX5_hats : List Cond := Cond.code yX5_hats cX5_hats 10 (some .int) :: wsL_law
def fX5_hats_126 (K58 : hg_W → Int → Int → Int → Int → Int → Int → Int → Option (hg_W × Int))  (w : hg_W) (x1 : Int) (x2 : Int) (x3 : Int) (x5 : Int) (x6 : Int) (x8 : Int) (s0 : Int) : Option (hg_W × Int) :=
  K58 w x1 x2 x3 x5 x6 s0 (x8 + 1)
def fX5_hats_124 (K58 : hg_W → Int → Int → Int → Int → Int → Int → Int → Option (hg_W × Int))  (w : hg_W) (x1 : Int) (x2 : Int) (x3 : Int) (x5 : Int) (x6 : Int) (x7 : Int) (x8 : Int) : Option (hg_W × Int) :=
  fX5_hats_126 K58 w x1 x2 x3 x5 x6 x8 x7
def fX5_hats_105 (K58 : hg_W → Int → Int → Int → Int → Int → Int → Int → Option (hg_W × Int))  (w : hg_W) (x1 : Int) (x2 : Int) (x3 : Int) (x5 : Int) (x7 : Int) (x8 : Int) (x9 : Int) (s0 : Int) (s1 : Int) : Option (hg_W × Int) :=
  if wr x9 = 0 then
    (
      fX5_hats_124 K58 w x1 x2 x3 x5 (s0 + s1) x7 x8
    )
  else
    if wr x7 = wr (-1) then
      (
        fX5_hats_126 K58 w x1 x2 x3 x5 (s0 + s1) x8 x8
      )
    else
      fX5_hats_124 K58 w x1 x2 x3 x5 (s0 + s1) x7 x8
def fX5_hats_91 (K58 : hg_W → Int → Int → Int → Int → Int → Int → Int → Option (hg_W × Int))  (w : hg_W) (x1 : Int) (x2 : Int) (x3 : Int) (x5 : Int) (x6 : Int) (x7 : Int) (x8 : Int) (s0 : Int) : Option (hg_W × Int) :=
  if wr s0 = 0 then
    (
      fX5_hats_105 K58 w x1 x2 x3 x5 x7 x8 s0 x6 0
    )
  else
    fX5_hats_105 K58 w x1 x2 x3 x5 x7 x8 s0 x6 1
def fX5_hats_58   : Nat → hg_W → Int → Int → Int → Int → Int → Int → Int → Option (hg_W × Int)
  | 0, _, _, _, _, _, _, _, _ => none
  | n + 1, w, x1, x2, x3, x5, x6, x7, x8 =>
    if wr 20 < wr x8 then
      (
        (hg_as 1 w 4 ((2 * x2) + 1) x5).bind fun w1 =>
        if wr x3 = 0 then
          (
            some (w1, wr x6)
          )
        else
          some (w1, wr x7)
      )
    else
      (hg_as 1 w 4 ((2 * x2) + 1) x8).bind fun w3 =>
      hg_bd (fX5_unlike w3 x1) fun w5 v6 =>
      if wr v6 = wr (-1) then
        (
          fX5_hats_91 (fX5_hats_58 n) w5 x1 x2 x3 x5 x6 x7 x8 1
        )
      else
        fX5_hats_91 (fX5_hats_58 n) w5 x1 x2 x3 x5 x6 x7 x8 0
def fX5_hats (w : hg_W) (a1 : Int) (a2 : Int) (a3 : Int) : Option (hg_W × Int) :=
  hg_bd (fX5_sheetWrong w a1) fun w1 v2 =>
  if wr v2 = 0 then
    (
      hg_bd (fX5_isCoin w1 a2) fun w4 v5 =>
      if wr v5 = 0 then
        (
          some (w4, wr (-5))
        )
      else
        hg_bd (fX5_in w4 a3 0 1) fun w7 v8 =>
        if wr v8 = 0 then
          (
            some (w7, wr (-7))
          )
        else
          (hg_ag 1 w7 4 ((2 * a2) + 1)).bind fun v10 =>
          fX5_hats_58 hg_F w7 a1 a2 a3 v10 0 (-1) 0
    )
  else
    some (w1, wr v2)
set_option maxHeartbeats 4000000 in
set_option maxRecDepth 100000 in
abbrev rmX5_hats : Room := { frames := 9, cells := 0, slots := 0, locals := 209 }
set_option maxHeartbeats 4000000 in
set_option maxRecDepth 100000 in
theorem rX5_hats_126 (B : hg_B p s m args meth c cX5_hats RX5 wsL_law 10 D cI cA ad 1 A) (hr : meth.sig.returnType = (some .int)) {w1 : hg_W} {r1 : Int} {K58 : hg_W → Int → Int → Int → Int → Int → Int → Int → Option (hg_W × Int)} (hK58 : ∀ (w : hg_W) (x1 : Int) (x2 : Int) (x3 : Int) (x5 : Int) (x6 : Int) (x7 : Int) (x8 : Int), K58 w x1 x2 x3 x5 x6 x7 x8 = some (w1, r1) → hg_At p l e (rmX5_hats) s m args below meth c D cI cA ad 1 A (MQ below (hg_Qi D cI cA ad 1 A w1 r1) args s 0 0 A) 10 w [(0, .ref (ad 0)), (1, .int (hg_I x1)), (2, .int (hg_I x2)), (3, .int (hg_I x3)), (5, .int (hg_I x5)), (6, .int (hg_I x6)), (7, .int (hg_I x7)), (8, .int (hg_I x8))] 58 []) : ∀ (w : hg_W) (x1 : Int) (x2 : Int) (x3 : Int) (x5 : Int) (x6 : Int) (x8 : Int) (s0 : Int), fX5_hats_126 K58 w x1 x2 x3 x5 x6 x8 s0 = some (w1, r1) → hg_At p l e (rmX5_hats) s m args below meth c D cI cA ad 1 A (MQ below (hg_Qi D cI cA ad 1 A w1 r1) args s 0 0 A) 10 w [(0, .ref (ad 0)), (1, .int (hg_I x1)), (2, .int (hg_I x2)), (3, .int (hg_I x3)), (5, .int (hg_I x5)), (6, .int (hg_I x6)), (8, .int (hg_I x8))] 126 [.int (hg_I s0)] := by
  intro w x1 x2 x3 x5 x6 x8 s0 h
  unfold fX5_hats_126 at h
  refine z_istore B [(7, .int (hg_I s0)), (0, .ref (ad 0)), (1, .int (hg_I x1)), (2, .int (hg_I x2)), (3, .int (hg_I x3)), (5, .int (hg_I x5)), (6, .int (hg_I x6)), (8, .int (hg_I x8))] dX5_hats_126 (by decide) rfl ?_
  refine z_iinc B 7 [(8, .int (hg_I (x8 + 1))), (7, .int (hg_I s0)), (0, .ref (ad 0)), (1, .int (hg_I x1)), (2, .int (hg_I x2)), (3, .int (hg_I x3)), (5, .int (hg_I x5)), (6, .int (hg_I x6))] dX5_hats_128 rfl (by decide) rfl ?_
  refine z_goto (tgt := 58) B dX5_hats_131 (by decide) ?_
  refine z_lv (lv' := [(0, .ref (ad 0)), (1, .int (hg_I x1)), (2, .int (hg_I x2)), (3, .int (hg_I x3)), (5, .int (hg_I x5)), (6, .int (hg_I x6)), (7, .int (hg_I s0)), (8, .int (hg_I (x8 + 1)))]) B [2, 3, 4, 5, 6, 7, 1, 0] rfl ?_
  exact hK58 _ _ _ _ _ _ _ _ h
set_option maxHeartbeats 4000000 in
set_option maxRecDepth 100000 in
theorem rX5_hats_124 (B : hg_B p s m args meth c cX5_hats RX5 wsL_law 10 D cI cA ad 1 A) (hr : meth.sig.returnType = (some .int)) {w1 : hg_W} {r1 : Int} {K58 : hg_W → Int → Int → Int → Int → Int → Int → Int → Option (hg_W × Int)} (hK58 : ∀ (w : hg_W) (x1 : Int) (x2 : Int) (x3 : Int) (x5 : Int) (x6 : Int) (x7 : Int) (x8 : Int), K58 w x1 x2 x3 x5 x6 x7 x8 = some (w1, r1) → hg_At p l e (rmX5_hats) s m args below meth c D cI cA ad 1 A (MQ below (hg_Qi D cI cA ad 1 A w1 r1) args s 0 0 A) 10 w [(0, .ref (ad 0)), (1, .int (hg_I x1)), (2, .int (hg_I x2)), (3, .int (hg_I x3)), (5, .int (hg_I x5)), (6, .int (hg_I x6)), (7, .int (hg_I x7)), (8, .int (hg_I x8))] 58 []) : ∀ (w : hg_W) (x1 : Int) (x2 : Int) (x3 : Int) (x5 : Int) (x6 : Int) (x7 : Int) (x8 : Int), fX5_hats_124 K58 w x1 x2 x3 x5 x6 x7 x8 = some (w1, r1) → hg_At p l e (rmX5_hats) s m args below meth c D cI cA ad 1 A (MQ below (hg_Qi D cI cA ad 1 A w1 r1) args s 0 0 A) 10 w [(0, .ref (ad 0)), (1, .int (hg_I x1)), (2, .int (hg_I x2)), (3, .int (hg_I x3)), (5, .int (hg_I x5)), (6, .int (hg_I x6)), (7, .int (hg_I x7)), (8, .int (hg_I x8))] 124 [] := by
  intro w x1 x2 x3 x5 x6 x7 x8 h
  unfold fX5_hats_124 at h
  refine z_iload B 6 dX5_hats_124 rfl ?_
  refine z_lv (lv' := [(0, .ref (ad 0)), (1, .int (hg_I x1)), (2, .int (hg_I x2)), (3, .int (hg_I x3)), (5, .int (hg_I x5)), (6, .int (hg_I x6)), (8, .int (hg_I x8))]) B [0, 1, 2, 3, 4, 5, 7] rfl ?_
  exact rX5_hats_126 B hr hK58 _ _ _ _ _ _ _ _ h
set_option maxHeartbeats 4000000 in
set_option maxRecDepth 100000 in
theorem rX5_hats_105 (B : hg_B p s m args meth c cX5_hats RX5 wsL_law 10 D cI cA ad 1 A) (hr : meth.sig.returnType = (some .int)) {w1 : hg_W} {r1 : Int} {K58 : hg_W → Int → Int → Int → Int → Int → Int → Int → Option (hg_W × Int)} (hK58 : ∀ (w : hg_W) (x1 : Int) (x2 : Int) (x3 : Int) (x5 : Int) (x6 : Int) (x7 : Int) (x8 : Int), K58 w x1 x2 x3 x5 x6 x7 x8 = some (w1, r1) → hg_At p l e (rmX5_hats) s m args below meth c D cI cA ad 1 A (MQ below (hg_Qi D cI cA ad 1 A w1 r1) args s 0 0 A) 10 w [(0, .ref (ad 0)), (1, .int (hg_I x1)), (2, .int (hg_I x2)), (3, .int (hg_I x3)), (5, .int (hg_I x5)), (6, .int (hg_I x6)), (7, .int (hg_I x7)), (8, .int (hg_I x8))] 58 []) : ∀ (w : hg_W) (x1 : Int) (x2 : Int) (x3 : Int) (x5 : Int) (x7 : Int) (x8 : Int) (x9 : Int) (s0 : Int) (s1 : Int), fX5_hats_105 K58 w x1 x2 x3 x5 x7 x8 x9 s0 s1 = some (w1, r1) → hg_At p l e (rmX5_hats) s m args below meth c D cI cA ad 1 A (MQ below (hg_Qi D cI cA ad 1 A w1 r1) args s 0 0 A) 10 w [(0, .ref (ad 0)), (1, .int (hg_I x1)), (2, .int (hg_I x2)), (3, .int (hg_I x3)), (5, .int (hg_I x5)), (7, .int (hg_I x7)), (8, .int (hg_I x8)), (9, .int (hg_I x9))] 105 [.int (hg_I s1), .int (hg_I s0)] := by
  intro w x1 x2 x3 x5 x7 x8 x9 s0 s1 h
  unfold fX5_hats_105 at h
  refine z_iadd B dX5_hats_105 ?_
  refine z_istore B [(6, .int (hg_I (s0 + s1))), (0, .ref (ad 0)), (1, .int (hg_I x1)), (2, .int (hg_I x2)), (3, .int (hg_I x3)), (5, .int (hg_I x5)), (7, .int (hg_I x7)), (8, .int (hg_I x8)), (9, .int (hg_I x9))] dX5_hats_106 (by decide) rfl ?_
  refine z_iload B 8 dX5_hats_108 rfl ?_
  refine z_if_eq (tgt := 124) B dX5_hats_110 (by decide) h (fun h => ?_) (fun h => ?_)
  · refine z_lv (lv' := [(0, .ref (ad 0)), (1, .int (hg_I x1)), (2, .int (hg_I x2)), (3, .int (hg_I x3)), (5, .int (hg_I x5)), (6, .int (hg_I (s0 + s1))), (7, .int (hg_I x7)), (8, .int (hg_I x8))]) B [1, 2, 3, 4, 5, 0, 6, 7] rfl ?_
    exact rX5_hats_124 B hr hK58 _ _ _ _ _ _ _ _ h
  · refine z_iload B 6 dX5_hats_113 rfl ?_
    refine z_iconst B dX5_hats_115 ?_
    refine z_icmp_ne (tgt := 124) B dX5_hats_116 (by decide) h (fun h => ?_) (fun h => ?_)
    · refine z_lv (lv' := [(0, .ref (ad 0)), (1, .int (hg_I x1)), (2, .int (hg_I x2)), (3, .int (hg_I x3)), (5, .int (hg_I x5)), (6, .int (hg_I (s0 + s1))), (7, .int (hg_I x7)), (8, .int (hg_I x8))]) B [1, 2, 3, 4, 5, 0, 6, 7] rfl ?_
      exact rX5_hats_124 B hr hK58 _ _ _ _ _ _ _ _ h
    · refine z_iload B 7 dX5_hats_119 rfl ?_
      refine z_goto (tgt := 126) B dX5_hats_121 (by decide) ?_
      refine z_lv (lv' := [(0, .ref (ad 0)), (1, .int (hg_I x1)), (2, .int (hg_I x2)), (3, .int (hg_I x3)), (5, .int (hg_I x5)), (6, .int (hg_I (s0 + s1))), (8, .int (hg_I x8))]) B [1, 2, 3, 4, 5, 0, 7] rfl ?_
      exact rX5_hats_126 B hr hK58 _ _ _ _ _ _ _ _ h
set_option maxHeartbeats 4000000 in
set_option maxRecDepth 100000 in
theorem rX5_hats_91 (B : hg_B p s m args meth c cX5_hats RX5 wsL_law 10 D cI cA ad 1 A) (hr : meth.sig.returnType = (some .int)) {w1 : hg_W} {r1 : Int} {K58 : hg_W → Int → Int → Int → Int → Int → Int → Int → Option (hg_W × Int)} (hK58 : ∀ (w : hg_W) (x1 : Int) (x2 : Int) (x3 : Int) (x5 : Int) (x6 : Int) (x7 : Int) (x8 : Int), K58 w x1 x2 x3 x5 x6 x7 x8 = some (w1, r1) → hg_At p l e (rmX5_hats) s m args below meth c D cI cA ad 1 A (MQ below (hg_Qi D cI cA ad 1 A w1 r1) args s 0 0 A) 10 w [(0, .ref (ad 0)), (1, .int (hg_I x1)), (2, .int (hg_I x2)), (3, .int (hg_I x3)), (5, .int (hg_I x5)), (6, .int (hg_I x6)), (7, .int (hg_I x7)), (8, .int (hg_I x8))] 58 []) : ∀ (w : hg_W) (x1 : Int) (x2 : Int) (x3 : Int) (x5 : Int) (x6 : Int) (x7 : Int) (x8 : Int) (s0 : Int), fX5_hats_91 K58 w x1 x2 x3 x5 x6 x7 x8 s0 = some (w1, r1) → hg_At p l e (rmX5_hats) s m args below meth c D cI cA ad 1 A (MQ below (hg_Qi D cI cA ad 1 A w1 r1) args s 0 0 A) 10 w [(0, .ref (ad 0)), (1, .int (hg_I x1)), (2, .int (hg_I x2)), (3, .int (hg_I x3)), (5, .int (hg_I x5)), (6, .int (hg_I x6)), (7, .int (hg_I x7)), (8, .int (hg_I x8))] 91 [.int (hg_I s0)] := by
  intro w x1 x2 x3 x5 x6 x7 x8 s0 h
  unfold fX5_hats_91 at h
  refine z_istore B [(9, .int (hg_I s0)), (0, .ref (ad 0)), (1, .int (hg_I x1)), (2, .int (hg_I x2)), (3, .int (hg_I x3)), (5, .int (hg_I x5)), (6, .int (hg_I x6)), (7, .int (hg_I x7)), (8, .int (hg_I x8))] dX5_hats_91 (by decide) rfl ?_
  refine z_iload B 6 dX5_hats_93 rfl ?_
  refine z_iload B 0 dX5_hats_95 rfl ?_
  refine z_if_eq (tgt := 104) B dX5_hats_97 (by decide) h (fun h => ?_) (fun h => ?_)
  · refine z_iconst B dX5_hats_104 ?_
    refine z_lv (lv' := [(0, .ref (ad 0)), (1, .int (hg_I x1)), (2, .int (hg_I x2)), (3, .int (hg_I x3)), (5, .int (hg_I x5)), (7, .int (hg_I x7)), (8, .int (hg_I x8)), (9, .int (hg_I s0))]) B [1, 2, 3, 4, 5, 7, 8, 0] rfl ?_
    exact rX5_hats_105 B hr hK58 _ _ _ _ _ _ _ _ _ _ h
  · refine z_iconst B dX5_hats_100 ?_
    refine z_goto (tgt := 105) B dX5_hats_101 (by decide) ?_
    refine z_lv (lv' := [(0, .ref (ad 0)), (1, .int (hg_I x1)), (2, .int (hg_I x2)), (3, .int (hg_I x3)), (5, .int (hg_I x5)), (7, .int (hg_I x7)), (8, .int (hg_I x8)), (9, .int (hg_I s0))]) B [1, 2, 3, 4, 5, 7, 8, 0] rfl ?_
    exact rX5_hats_105 B hr hK58 _ _ _ _ _ _ _ _ _ _ h
set_option maxHeartbeats 4000000 in
set_option maxRecDepth 100000 in
theorem rX5_hats_58 (B : hg_B p s m args meth c cX5_hats RX5 wsL_law 10 D cI cA ad 1 A) (hr : meth.sig.returnType = (some .int)) {w1 : hg_W} {r1 : Int} : ∀ (n : Nat), ∀ (w : hg_W) (x1 : Int) (x2 : Int) (x3 : Int) (x5 : Int) (x6 : Int) (x7 : Int) (x8 : Int), fX5_hats_58 n w x1 x2 x3 x5 x6 x7 x8 = some (w1, r1) → hg_At p l e (rmX5_hats) s m args below meth c D cI cA ad 1 A (MQ below (hg_Qi D cI cA ad 1 A w1 r1) args s 0 0 A) 10 w [(0, .ref (ad 0)), (1, .int (hg_I x1)), (2, .int (hg_I x2)), (3, .int (hg_I x3)), (5, .int (hg_I x5)), (6, .int (hg_I x6)), (7, .int (hg_I x7)), (8, .int (hg_I x8))] 58 [] := by
  intro n
  induction n with
  | zero =>
    intro w x1 x2 x3 x5 x6 x7 x8 h
    cases h
  | succ n ih =>
    intro w x1 x2 x3 x5 x6 x7 x8 h
    simp only [fX5_hats_58] at h
    refine z_iload B 7 dX5_hats_58 rfl ?_
    refine z_bipush B dX5_hats_60 (by decide) ?_
    refine z_icmp_gt (tgt := 134) B dX5_hats_62 (by decide) h (fun h => ?_) (fun h => ?_)
    · refine z_aload_n B 0 dX5_hats_134 rfl rfl ?_
      refine z_get5 (v := .ref (ad 4)) B 4 dX5_hats_135 inlX5 (by decide) rfl (by decide) (wl_4 5 rfl) rfl rfl ?_
      refine z_iconst B dX5_hats_138 ?_
      refine z_iload_n B 2 dX5_hats_139 rfl rfl ?_
      refine z_imul B dX5_hats_140 ?_
      refine z_iconst B dX5_hats_141 ?_
      refine z_iadd B dX5_hats_142 ?_
      refine z_iload B 4 dX5_hats_143 rfl ?_
      obtain ⟨w1, q2, h⟩ := Option.bind_eq_some_iff.mp h
      refine z_iast (Or.inr rfl) B dX5_hats_145 q2 ?_
      refine z_iload_n B 3 dX5_hats_146 rfl rfl ?_
      refine z_if_ne (tgt := 155) B dX5_hats_147 (by decide) h (fun h => ?_) (fun h => ?_)
      · refine z_iload B 6 dX5_hats_155 rfl ?_
        exact z_iret B hr dX5_hats_157 h
      · refine z_iload B 5 dX5_hats_150 rfl ?_
        refine z_goto (tgt := 157) B dX5_hats_152 (by decide) ?_
        exact z_iret B hr dX5_hats_157 h
    · refine z_aload_n B 0 dX5_hats_65 rfl rfl ?_
      refine z_get5 (v := .ref (ad 4)) B 4 dX5_hats_66 inlX5 (by decide) rfl (by decide) (wl_4 5 rfl) rfl rfl ?_
      refine z_iconst B dX5_hats_69 ?_
      refine z_iload_n B 2 dX5_hats_70 rfl rfl ?_
      refine z_imul B dX5_hats_71 ?_
      refine z_iconst B dX5_hats_72 ?_
      refine z_iadd B dX5_hats_73 ?_
      refine z_iload B 7 dX5_hats_74 rfl ?_
      obtain ⟨w3, q4, h⟩ := Option.bind_eq_some_iff.mp h
      refine z_iast (Or.inr rfl) B dX5_hats_76 q4 ?_
      refine z_aload_n B 0 dX5_hats_77 rfl rfl ?_
      refine z_iload_n B 1 dX5_hats_78 rfl rfl ?_
      obtain ⟨w5, v6, q7, h⟩ := hg_bd_some h
      refine z_calliV (a := 0) (ci := 5) (N := 37) (T := TX5) (C := RX5) (As := [.int (hg_I x1)]) (n := 1) B dX5_hats_79 (c_X5_unlike q7) (gl_V (wl_29 13 rfl) (wl_29 14 rfl) (wl_29 15 rfl) (wl_1 5 rfl) (wl_29 16 rfl)) rfl ⟨rfl, rfl⟩ (by decide +kernel) ⟨Nat.le_of_ble_eq_true rfl, Nat.le_of_ble_eq_true rfl⟩ (by decide) rfl (by decide) rfl rfl rfl (Nat.le_of_ble_eq_true rfl) ?_
      refine z_iconst B dX5_hats_82 ?_
      refine z_icmp_ne (tgt := 90) B dX5_hats_83 (by decide) h (fun h => ?_) (fun h => ?_)
      · refine z_iconst B dX5_hats_90 ?_
        exact rX5_hats_91 B hr ih _ _ _ _ _ _ _ _ _ h
      · refine z_iconst B dX5_hats_86 ?_
        refine z_goto (tgt := 91) B dX5_hats_87 (by decide) ?_
        exact rX5_hats_91 B hr ih _ _ _ _ _ _ _ _ _ h
set_option maxHeartbeats 4000000 in
set_option maxRecDepth 100000 in
theorem rX5_hats_E (B : hg_B p s m args meth c cX5_hats RX5 wsL_law 10 D cI cA ad 1 A) (hr : meth.sig.returnType = (some .int)) {a1 : Int} {a2 : Int} {a3 : Int} {w1 : hg_W} {r1 : Int} {w : hg_W} (h : fX5_hats w a1 a2 a3 = some (w1, r1)) : hg_At p l e (rmX5_hats) s m args below meth c D cI cA ad 1 A (MQ below (hg_Qi D cI cA ad 1 A w1 r1) args s 0 0 A) 10 w [(0, .ref (ad 0)), (1, .int (hg_I a1)), (2, .int (hg_I a2)), (3, .int (hg_I a3))] 0 [] := by
  unfold fX5_hats at h
  refine z_aload_n B 0 dX5_hats_0 rfl rfl ?_
  refine z_iload_n B 1 dX5_hats_1 rfl rfl ?_
  obtain ⟨w1, v2, q3, h⟩ := hg_bd_some h
  refine z_calliV (a := 0) (ci := 5) (N := 37) (T := TX5) (C := RX5) (As := [.int (hg_I a1)]) (n := 1) B dX5_hats_2 (c_X5_sheetWrong q3) (gl_V (wl_29 9 rfl) (wl_29 10 rfl) (wl_29 11 rfl) (wl_1 5 rfl) (wl_29 12 rfl)) rfl ⟨rfl, rfl⟩ (by decide +kernel) ⟨Nat.le_of_ble_eq_true rfl, Nat.le_of_ble_eq_true rfl⟩ (by decide) rfl (by decide) rfl rfl rfl (Nat.le_of_ble_eq_true rfl) ?_
  refine z_istore B [(4, .int (hg_I v2)), (0, .ref (ad 0)), (1, .int (hg_I a1)), (2, .int (hg_I a2)), (3, .int (hg_I a3))] dX5_hats_5 (by decide) rfl ?_
  refine z_iload B 0 dX5_hats_7 rfl ?_
  refine z_if_eq (tgt := 15) B dX5_hats_9 (by decide) h (fun h => ?_) (fun h => ?_)
  · refine z_iload_n B 3 dX5_hats_15 rfl rfl ?_
    obtain ⟨w4, v5, q6, h⟩ := hg_bd_some h
    refine z_calliS (As := [.int (hg_I a2)]) (n := 1) B dX5_hats_16 (c_X5_isCoin q6) (gl_S (wl_9 0 rfl) (wl_9 1 rfl) (wl_1 5 rfl) (wl_9 2 rfl)) rfl ⟨rfl, rfl⟩ (by decide +kernel) ⟨Nat.le_of_ble_eq_true rfl, Nat.le_of_ble_eq_true rfl⟩ rfl rfl (Nat.le_of_ble_eq_true rfl) ?_
    refine z_if_ne (tgt := 25) B dX5_hats_19 (by decide) h (fun h => ?_) (fun h => ?_)
    · refine z_iload_n B 4 dX5_hats_25 rfl rfl ?_
      refine z_iconst B dX5_hats_26 ?_
      refine z_iconst B dX5_hats_27 ?_
      obtain ⟨w7, v8, q9, h⟩ := hg_bd_some h
      refine z_calliS (As := [.int (hg_I a3), .int (hg_I 0), .int (hg_I 1)]) (n := 3) B dX5_hats_28 (c_X5_in q9) (gl_S (wl_5 14 rfl) (wl_5 15 rfl) (wl_1 5 rfl) (wl_5 16 rfl)) rfl ⟨rfl, rfl⟩ (by decide +kernel) ⟨Nat.le_of_ble_eq_true rfl, Nat.le_of_ble_eq_true rfl⟩ rfl rfl (Nat.le_of_ble_eq_true rfl) ?_
      refine z_if_ne (tgt := 37) B dX5_hats_31 (by decide) h (fun h => ?_) (fun h => ?_)
      · refine z_aload_n B 1 dX5_hats_37 rfl rfl ?_
        refine z_get5 (v := .ref (ad 4)) B 4 dX5_hats_38 inlX5 (by decide) rfl (by decide) (wl_4 5 rfl) rfl rfl ?_
        refine z_iconst B dX5_hats_41 ?_
        refine z_iload_n B 3 dX5_hats_42 rfl rfl ?_
        refine z_imul B dX5_hats_43 ?_
        refine z_iconst B dX5_hats_44 ?_
        refine z_iadd B dX5_hats_45 ?_
        obtain ⟨v10, q11, h⟩ := Option.bind_eq_some_iff.mp h
        refine z_iald (Or.inr rfl) B dX5_hats_46 q11 ?_
        refine z_istore B [(5, .int (hg_I v10)), (4, .int (hg_I v2)), (0, .ref (ad 0)), (1, .int (hg_I a1)), (2, .int (hg_I a2)), (3, .int (hg_I a3))] dX5_hats_47 (by decide) rfl ?_
        refine z_iconst B dX5_hats_49 ?_
        refine z_istore B [(6, .int (hg_I 0)), (5, .int (hg_I v10)), (4, .int (hg_I v2)), (0, .ref (ad 0)), (1, .int (hg_I a1)), (2, .int (hg_I a2)), (3, .int (hg_I a3))] dX5_hats_50 (by decide) rfl ?_
        refine z_iconst B dX5_hats_52 ?_
        refine z_istore B [(7, .int (hg_I (-1))), (6, .int (hg_I 0)), (5, .int (hg_I v10)), (4, .int (hg_I v2)), (0, .ref (ad 0)), (1, .int (hg_I a1)), (2, .int (hg_I a2)), (3, .int (hg_I a3))] dX5_hats_53 (by decide) rfl ?_
        refine z_iconst B dX5_hats_55 ?_
        refine z_istore B [(8, .int (hg_I 0)), (7, .int (hg_I (-1))), (6, .int (hg_I 0)), (5, .int (hg_I v10)), (4, .int (hg_I v2)), (0, .ref (ad 0)), (1, .int (hg_I a1)), (2, .int (hg_I a2)), (3, .int (hg_I a3))] dX5_hats_56 (by decide) rfl ?_
        refine z_lv (lv' := [(0, .ref (ad 0)), (1, .int (hg_I a1)), (2, .int (hg_I a2)), (3, .int (hg_I a3)), (5, .int (hg_I v10)), (6, .int (hg_I 0)), (7, .int (hg_I (-1))), (8, .int (hg_I 0))]) B [5, 6, 7, 8, 3, 2, 1, 0] rfl ?_
        exact rX5_hats_58 B hr hg_F _ _ _ _ _ _ _ _ h
      · refine z_bipush B dX5_hats_34 (by decide) ?_
        exact z_iret B hr dX5_hats_36 h
    · refine z_bipush B dX5_hats_22 (by decide) ?_
      exact z_iret B hr dX5_hats_24 h
  · refine z_iload B 0 dX5_hats_12 rfl ?_
    exact z_iret B hr dX5_hats_14 h
set_option maxHeartbeats 4000000 in
set_option maxRecDepth 100000 in
theorem c_X5_hats {l : Launch} {D : va_G} {cI cA : ClassId} {ad : Nat → Nat} {a1 : Int} {a2 : Int} {a3 : Int} {w w1 : hg_W} {r1 : Int} (h : fX5_hats w a1 a2 a3 = some (w1, r1)) : hg_Mi l yX5_hats wxX5_hats rmX5_hats D cI cA ad 1 w [.ref (ad 0), .int (hg_I a1), .int (hg_I a2), .int (hg_I a3)] w1 r1 := by
  refine z_meti cX5_hats 10 (some .int) (by decide) (Nat.le_of_ble_eq_true rfl) ?_
  intro p e s m args below meth c A B hr
  exact rX5_hats_E B hr h
abbrev wxX5_starts : List Cond := Cond.code yX5_starts cX5_starts 6 (some .int) :: wsL_law
def fX5_starts_57 (K23 : hg_W → Int → Int → Int → Int → Option (hg_W × Int))  (w : hg_W) (x1 : Int) (x3 : Int) (x5 : Int) (s0 : Int) (s1 : Int) : Option (hg_W × Int) :=
  K23 w x1 x3 (hg_or s0 s1) (x5 + 1)
def fX5_starts_23   : Nat → hg_W → Int → Int → Int → Int → Option (hg_W × Int)
  | 0, _, _, _, _, _ => none
  | n + 1, w, x1, x3, x4, x5 =>
    if wr (w 0 0) ≤ wr x5 then
      (
        (hg_pt w 0 5 x3).bind fun w1 =>
        some (w1, wr x4)
      )
    else
      (hg_pt w 0 5 x5).bind fun w3 =>
      hg_bd (fX5_unlike w3 x1) fun w5 v6 =>
      if wr v6 = wr (-1) then
        (
          fX5_starts_57 (fX5_starts_23 n) w5 x1 x3 x5 x4 (hg_shl 1 x5)
        )
      else
        fX5_starts_57 (fX5_starts_23 n) w5 x1 x3 x5 x4 0
def fX5_starts (w : hg_W) (a1 : Int) : Option (hg_W × Int) :=
  hg_bd (fX5_sheetWrong w a1) fun w1 v2 =>
  if wr v2 = 0 then
    (
      fX5_starts_23 hg_F w1 a1 (w1 0 5) 0 0
    )
  else
    some (w1, wr v2)
set_option maxHeartbeats 4000000 in
set_option maxRecDepth 100000 in
abbrev rmX5_starts : Room := { frames := 9, cells := 0, slots := 0, locals := 209 }
set_option maxHeartbeats 4000000 in
set_option maxRecDepth 100000 in
theorem rX5_starts_57 (B : hg_B p s m args meth c cX5_starts RX5 wsL_law 6 D cI cA ad 1 A) (hr : meth.sig.returnType = (some .int)) {w1 : hg_W} {r1 : Int} {K23 : hg_W → Int → Int → Int → Int → Option (hg_W × Int)} (hK23 : ∀ (w : hg_W) (x1 : Int) (x3 : Int) (x4 : Int) (x5 : Int), K23 w x1 x3 x4 x5 = some (w1, r1) → hg_At p l e (rmX5_starts) s m args below meth c D cI cA ad 1 A (MQ below (hg_Qi D cI cA ad 1 A w1 r1) args s 0 0 A) 6 w [(0, .ref (ad 0)), (1, .int (hg_I x1)), (3, .int (hg_I x3)), (4, .int (hg_I x4)), (5, .int (hg_I x5))] 23 []) : ∀ (w : hg_W) (x1 : Int) (x3 : Int) (x5 : Int) (s0 : Int) (s1 : Int), fX5_starts_57 K23 w x1 x3 x5 s0 s1 = some (w1, r1) → hg_At p l e (rmX5_starts) s m args below meth c D cI cA ad 1 A (MQ below (hg_Qi D cI cA ad 1 A w1 r1) args s 0 0 A) 6 w [(0, .ref (ad 0)), (1, .int (hg_I x1)), (3, .int (hg_I x3)), (5, .int (hg_I x5))] 57 [.int (hg_I s1), .int (hg_I s0)] := by
  intro w x1 x3 x5 s0 s1 h
  unfold fX5_starts_57 at h
  refine z_ior B dX5_starts_57 ?_
  refine z_istore B [(4, .int (hg_I (hg_or s0 s1))), (0, .ref (ad 0)), (1, .int (hg_I x1)), (3, .int (hg_I x3)), (5, .int (hg_I x5))] dX5_starts_58 (by decide) rfl ?_
  refine z_iinc B 4 [(5, .int (hg_I (x5 + 1))), (4, .int (hg_I (hg_or s0 s1))), (0, .ref (ad 0)), (1, .int (hg_I x1)), (3, .int (hg_I x3))] dX5_starts_60 rfl (by decide) rfl ?_
  refine z_goto (tgt := 23) B dX5_starts_63 (by decide) ?_
  refine z_lv (lv' := [(0, .ref (ad 0)), (1, .int (hg_I x1)), (3, .int (hg_I x3)), (4, .int (hg_I (hg_or s0 s1))), (5, .int (hg_I (x5 + 1)))]) B [2, 3, 4, 1, 0] rfl ?_
  exact hK23 _ _ _ _ _ h
set_option maxHeartbeats 4000000 in
set_option maxRecDepth 100000 in
theorem rX5_starts_23 (B : hg_B p s m args meth c cX5_starts RX5 wsL_law 6 D cI cA ad 1 A) (hr : meth.sig.returnType = (some .int)) {w1 : hg_W} {r1 : Int} : ∀ (n : Nat), ∀ (w : hg_W) (x1 : Int) (x3 : Int) (x4 : Int) (x5 : Int), fX5_starts_23 n w x1 x3 x4 x5 = some (w1, r1) → hg_At p l e (rmX5_starts) s m args below meth c D cI cA ad 1 A (MQ below (hg_Qi D cI cA ad 1 A w1 r1) args s 0 0 A) 6 w [(0, .ref (ad 0)), (1, .int (hg_I x1)), (3, .int (hg_I x3)), (4, .int (hg_I x4)), (5, .int (hg_I x5))] 23 [] := by
  intro n
  induction n with
  | zero =>
    intro w x1 x3 x4 x5 h
    cases h
  | succ n ih =>
    intro w x1 x3 x4 x5 h
    simp only [fX5_starts_23] at h
    refine z_iload B 4 dX5_starts_23 rfl ?_
    refine z_aload_n B 0 dX5_starts_25 rfl rfl ?_
    refine z_get5 (v := .int (hg_I (w 0 0))) B 0 dX5_starts_26 inlX5 (by decide) rfl (by decide) (wl_7 22 rfl) rfl rfl ?_
    refine z_icmp_ge (tgt := 66) B dX5_starts_29 (by decide) h (fun h => ?_) (fun h => ?_)
    · refine z_aload_n B 0 dX5_starts_66 rfl rfl ?_
      refine z_iload_n B 2 dX5_starts_67 rfl rfl ?_
      obtain ⟨w1, q2, h⟩ := Option.bind_eq_some_iff.mp h
      refine z_put5 B 5 dX5_starts_68 inlX5 (by decide) rfl (by decide) (wl_8 1 rfl) rfl rfl .int (by decide +kernel) rfl rfl hg_fs5_5 q2 ?_
      refine z_iload B 3 dX5_starts_71 rfl ?_
      exact z_iret B hr dX5_starts_73 h
    · refine z_aload_n B 0 dX5_starts_32 rfl rfl ?_
      refine z_iload B 4 dX5_starts_33 rfl ?_
      obtain ⟨w3, q4, h⟩ := Option.bind_eq_some_iff.mp h
      refine z_put5 B 5 dX5_starts_35 inlX5 (by decide) rfl (by decide) (wl_8 1 rfl) rfl rfl .int (by decide +kernel) rfl rfl hg_fs5_5 q4 ?_
      refine z_iload B 3 dX5_starts_38 rfl ?_
      refine z_aload_n B 0 dX5_starts_40 rfl rfl ?_
      refine z_iload_n B 1 dX5_starts_41 rfl rfl ?_
      obtain ⟨w5, v6, q7, h⟩ := hg_bd_some h
      refine z_calliV (a := 0) (ci := 5) (N := 37) (T := TX5) (C := RX5) (As := [.int (hg_I x1)]) (n := 1) B dX5_starts_42 (c_X5_unlike q7) (gl_V (wl_29 13 rfl) (wl_29 14 rfl) (wl_29 15 rfl) (wl_1 5 rfl) (wl_29 16 rfl)) rfl ⟨rfl, rfl⟩ (by decide +kernel) ⟨Nat.le_of_ble_eq_true rfl, Nat.le_of_ble_eq_true rfl⟩ (by decide) rfl (by decide) rfl rfl rfl (Nat.le_of_ble_eq_true rfl) ?_
      refine z_iconst B dX5_starts_45 ?_
      refine z_icmp_ne (tgt := 56) B dX5_starts_46 (by decide) h (fun h => ?_) (fun h => ?_)
      · refine z_iconst B dX5_starts_56 ?_
        refine z_lv (lv' := [(0, .ref (ad 0)), (1, .int (hg_I x1)), (3, .int (hg_I x3)), (5, .int (hg_I x5))]) B [0, 1, 2, 4] rfl ?_
        exact rX5_starts_57 B hr ih _ _ _ _ _ _ h
      · refine z_iconst B dX5_starts_49 ?_
        refine z_iload B 4 dX5_starts_50 rfl ?_
        refine z_ishl B dX5_starts_52 ?_
        refine z_goto (tgt := 57) B dX5_starts_53 (by decide) ?_
        refine z_lv (lv' := [(0, .ref (ad 0)), (1, .int (hg_I x1)), (3, .int (hg_I x3)), (5, .int (hg_I x5))]) B [0, 1, 2, 4] rfl ?_
        exact rX5_starts_57 B hr ih _ _ _ _ _ _ h
set_option maxHeartbeats 4000000 in
set_option maxRecDepth 100000 in
theorem rX5_starts_E (B : hg_B p s m args meth c cX5_starts RX5 wsL_law 6 D cI cA ad 1 A) (hr : meth.sig.returnType = (some .int)) {a1 : Int} {w1 : hg_W} {r1 : Int} {w : hg_W} (h : fX5_starts w a1 = some (w1, r1)) : hg_At p l e (rmX5_starts) s m args below meth c D cI cA ad 1 A (MQ below (hg_Qi D cI cA ad 1 A w1 r1) args s 0 0 A) 6 w [(0, .ref (ad 0)), (1, .int (hg_I a1))] 0 [] := by
  unfold fX5_starts at h
  refine z_aload_n B 0 dX5_starts_0 rfl rfl ?_
  refine z_iload_n B 1 dX5_starts_1 rfl rfl ?_
  obtain ⟨w1, v2, q3, h⟩ := hg_bd_some h
  refine z_calliV (a := 0) (ci := 5) (N := 37) (T := TX5) (C := RX5) (As := [.int (hg_I a1)]) (n := 1) B dX5_starts_2 (c_X5_sheetWrong q3) (gl_V (wl_29 9 rfl) (wl_29 10 rfl) (wl_29 11 rfl) (wl_1 5 rfl) (wl_29 12 rfl)) rfl ⟨rfl, rfl⟩ (by decide +kernel) ⟨Nat.le_of_ble_eq_true rfl, Nat.le_of_ble_eq_true rfl⟩ (by decide) rfl (by decide) rfl rfl rfl (Nat.le_of_ble_eq_true rfl) ?_
  refine z_istore_n B [(2, .int (hg_I v2)), (0, .ref (ad 0)), (1, .int (hg_I a1))] dX5_starts_5 rfl (by decide) rfl ?_
  refine z_iload_n B 0 dX5_starts_6 rfl rfl ?_
  refine z_if_eq (tgt := 12) B dX5_starts_7 (by decide) h (fun h => ?_) (fun h => ?_)
  · refine z_aload_n B 1 dX5_starts_12 rfl rfl ?_
    refine z_get5 (v := .int (hg_I (w1 0 5))) B 5 dX5_starts_13 inlX5 (by decide) rfl (by decide) (wl_8 1 rfl) rfl rfl ?_
    refine z_istore_n B [(3, .int (hg_I (w1 0 5))), (2, .int (hg_I v2)), (0, .ref (ad 0)), (1, .int (hg_I a1))] dX5_starts_16 rfl (by decide) rfl ?_
    refine z_iconst B dX5_starts_17 ?_
    refine z_istore B [(4, .int (hg_I 0)), (3, .int (hg_I (w1 0 5))), (2, .int (hg_I v2)), (0, .ref (ad 0)), (1, .int (hg_I a1))] dX5_starts_18 (by decide) rfl ?_
    refine z_iconst B dX5_starts_20 ?_
    refine z_istore B [(5, .int (hg_I 0)), (4, .int (hg_I 0)), (3, .int (hg_I (w1 0 5))), (2, .int (hg_I v2)), (0, .ref (ad 0)), (1, .int (hg_I a1))] dX5_starts_21 (by decide) rfl ?_
    refine z_lv (lv' := [(0, .ref (ad 0)), (1, .int (hg_I a1)), (3, .int (hg_I (w1 0 5))), (4, .int (hg_I 0)), (5, .int (hg_I 0))]) B [4, 5, 2, 1, 0] rfl ?_
    exact rX5_starts_23 B hr hg_F _ _ _ _ _ h
  · refine z_iload_n B 0 dX5_starts_10 rfl rfl ?_
    exact z_iret B hr dX5_starts_11 h
set_option maxHeartbeats 4000000 in
set_option maxRecDepth 100000 in
theorem c_X5_starts {l : Launch} {D : va_G} {cI cA : ClassId} {ad : Nat → Nat} {a1 : Int} {w w1 : hg_W} {r1 : Int} (h : fX5_starts w a1 = some (w1, r1)) : hg_Mi l yX5_starts wxX5_starts rmX5_starts D cI cA ad 1 w [.ref (ad 0), .int (hg_I a1)] w1 r1 := by
  refine z_meti cX5_starts 6 (some .int) (by decide) (Nat.le_of_ble_eq_true rfl) ?_
  intro p e s m args below meth c A B hr
  exact rX5_starts_E B hr h
end G_05_model4
