/-! ===== constructors ===== -/
def hn_upl : List (Nat × Int) → (Nat → Int32) → Nat → Int32
  | [], f => f
  | q :: l, f => hn_upl l (upd f q.1 (hg_I q.2))
def hn_cst (cc : ByteArray) (pc : Nat) (v : Int) (pc' : Nat) : Prop := (decode cc pc = .ok (.iconst v, 1) ∧ pc' = pc + 1) ∨ (decode cc pc = .ok (.bipush v, 2) ∧ pc' = pc + 2 ∧ (Int8.ofInt v).toInt32 = hg_I v)
def hn_pX0 (cI cA : ClassId) (a tx : Nat) (W1 : va_W) : Prop := ∃ (a1_1 : Nat) (a1_2 : Nat) (a1_3 : Nat) (a1_4 : Nat) (a1_5 : Nat) (a1_6 : Nat) (a1_7 : Nat) (a1_8 : Nat) (f1 : Nat → Int32), (∀ j, j < 6 → f1 j = hg_I (2 ^ j)) ∧ W1 = [hn_o a 0 [.ref tx, .ref a1_1, .ref a1_2, .ref a1_3, .ref a1_4, .ref a1_5, .ref a1_6, .ref a1_7, .ref a1_8, .int 0, .int 0, .int 0, .int 0, .int 0], hn_ai cI a1_1 6 f1, hn_ai cI a1_2 6 (fun _ => 0), hn_ai cI a1_3 6 (fun _ => 0), hn_ai cI a1_4 6 (fun _ => 0), hn_ai cI a1_5 6 (fun _ => 0), hn_ai cI a1_6 6 (fun _ => 0), hn_ai cI a1_7 6 (fun _ => 0), hn_ai cI a1_8 6 (fun _ => 0)]
theorem hn_dfX0 : ∀ j, j < 14 → defaultValue (tyX0 j) = vp_V [.null, .null, .null, .null, .null, .null, .null, .null, .null, .int 0, .int 0, .int 0, .int 0, .int 0] j := by
  intro j hj
  have : ∀ j, j < 14 → defaultValue (tyX0 j) = vp_V [.null, .null, .null, .null, .null, .null, .null, .null, .null, .int 0, .int 0, .int 0, .int 0, .int 0] j := by decide +kernel
  exact this j hj
def hn_pX1 (cI cA : ClassId) (a : Nat) (W1 : va_W) : Prop := ∃ (a1_1 : Nat) (a1_2 : Nat) (a1_3 : Nat) (r1 : Nat → Nat) (f1 : Nat → Int32), (∀ j, j < 4 → f1 j = hg_I (-1)) ∧ W1 = [hn_o a 1 [.ref a1_1, .ref a1_2, .ref a1_3], hn_ai cI a1_1 4 f1, hn_ai cI a1_2 4 (fun _ => 0), hn_aq cA a1_3 4 (fun i => if i < 4 then some (r1 i) else none), hn_ai cI (r1 0) 40 (fun _ => 0), hn_ai cI (r1 1) 40 (fun _ => 0), hn_ai cI (r1 2) 40 (fun _ => 0), hn_ai cI (r1 3) 40 (fun _ => 0)]
theorem hn_dfX1 : ∀ j, j < 3 → defaultValue (tyX1 j) = vp_V [.null, .null, .null] j := by
  intro j hj
  have : ∀ j, j < 3 → defaultValue (tyX1 j) = vp_V [.null, .null, .null] j := by decide +kernel
  exact this j hj
def hn_pX2 (cI cA : ClassId) (a : Nat) (W1 : va_W) : Prop := ∃ (b1 : Nat), W1 = [hn_o a 2 [.ref b1, .int 0, .ref b1, .int 0, .int 0, .int 0, .int 0, .int 0, .int 0], hn_ai cI b1 160 (fun _ => 0)]
theorem hn_dfX2 : ∀ j, j < 9 → defaultValue (tyX2 j) = vp_V [.null, .int 0, .null, .int 0, .int 0, .int 0, .int 0, .int 0, .int 0] j := by
  intro j hj
  have : ∀ j, j < 9 → defaultValue (tyX2 j) = vp_V [.null, .int 0, .null, .int 0, .int 0, .int 0, .int 0, .int 0, .int 0] j := by decide +kernel
  exact this j hj
def hn_pX3 (cI cA : ClassId) (a : Nat) (W1 : va_W) : Prop := ∃ (a1_1 : Nat) (a1_2 : Nat) (a1_3 : Nat) (r1 : Nat → Nat) (t1 : Nat → Nat) (f1 : Nat → Int32) (g1 : Nat → Int32), (f1 = upd (upd (upd (fun _ => 0) 0 (hg_I (-1))) 1 (hg_I (-2))) 2 (hg_I 1)) ∧ (∀ j, j < 3 → g1 j = hg_I (j + 1)) ∧ W1 = [hn_o a 3 [.ref a1_1, .ref a1_2, .ref a1_3, .int (hg_I 1)], hn_aq cA a1_1 6 (fun i => if i < 6 then some (r1 i) else none), hn_ai cI (r1 0) 160 f1, hn_ai cI (r1 1) 160 (fun _ => 0), hn_ai cI (r1 2) 160 (fun _ => 0), hn_ai cI (r1 3) 160 (fun _ => 0), hn_ai cI (r1 4) 160 (fun _ => 0), hn_ai cI (r1 5) 160 (fun _ => 0), hn_aq cA a1_2 6 (fun i => if i < 6 then some (t1 i) else none), hn_ai cI (t1 0) 3 g1, hn_ai cI (t1 1) 3 (fun _ => 0), hn_ai cI (t1 2) 3 (fun _ => 0), hn_ai cI (t1 3) 3 (fun _ => 0), hn_ai cI (t1 4) 3 (fun _ => 0), hn_ai cI (t1 5) 3 (fun _ => 0), hn_ai cI a1_3 40 (fun _ => 0)]
theorem hn_dfX3 : ∀ j, j < 4 → defaultValue (tyX3 j) = vp_V [.null, .null, .null, .int 0] j := by
  intro j hj
  have : ∀ j, j < 4 → defaultValue (tyX3 j) = vp_V [.null, .null, .null, .int 0] j := by decide +kernel
  exact this j hj
theorem hn_dfX4 : ∀ j, j < 9 → defaultValue (tyX4 j) = vp_V [.null, .null, .null, .null, .null, .int 0, .null, .null, .null] j := by
  intro j hj
  have : ∀ j, j < 9 → defaultValue (tyX4 j) = vp_V [.null, .null, .null, .null, .null, .int 0, .null, .null, .null] j := by decide +kernel
  exact this j hj
theorem hn_dfX5 : ∀ j, j < 37 → defaultValue (tyX5 j) = vp_V [.int 0, .null, .null, .null, .null, .int 0, .int 0, .null, .int 0, .null, .null, .int 0, .int 0, .int 0, .null, .null, .null, .null, .null, .null, .int 0, .int 0, .int 0, .int 0, .null, .null, .int 0, .int 0, .int 0, .null, .null, .null, .null, .int 0, .null, .null, .int 0] j := by
  intro j hj
  have : ∀ j, j < 37 → defaultValue (tyX5 j) = vp_V [.int 0, .null, .null, .null, .null, .int 0, .int 0, .null, .int 0, .null, .null, .int 0, .int 0, .int 0, .null, .null, .null, .null, .null, .null, .int 0, .int 0, .int 0, .int 0, .null, .null, .int 0, .int 0, .int 0, .null, .null, .null, .null, .int 0, .null, .null, .int 0] j := by decide +kernel
  exact this j hj
section HNC
variable {p : Program} {l : Launch} {e : Env} {R : Room} {s : State} {m : MethodId} {args : Array Value} {below : List Frame} {meth : Method} {c : Code} {D : va_G} {cI cA : ClassId} {ad : Nat → Nat} {o : Nat} {A : Nat → Prop} {Q : State → Prop} {nL : Nat} {W1 W2 : va_W} {nc ns : Nat} {lv : List (Nat × Value)} {pc : Nat} {st : List Value} {cc : ByteArray} {own : String} {ws : List Cond}
theorem hn_cs (B : hg_B p s m args meth c cc own ws nL D cI cA ad o A) {v : Int} {pc' : Nat} (h : hn_cst cc pc v pc') (k : hn_At p l e R s m args below meth c D A Q nL W1 nc ns lv pc' (.int (hg_I v) :: st)) : hn_At p l e R s m args below meth c D A Q nL W1 nc ns lv pc st := by
  rcases h with ⟨h1, rfl⟩ | ⟨h1, rfl, h2⟩
  · exact hn_iconst B h1 k
  · exact hn_bipush B h1 h2 k
theorem hn_iastL (B : hg_B p s m args meth c cc own ws nL D cI cA ad o A) {q n kn : Nat} {f : Nat → Int32} {i x : Int} (hkn : (wr i).toNat = kn) (hin : 0 ≤ wr i ∧ wr i < (n : Int)) (d : decode cc pc = .ok (.iastore, 1)) (k : hn_At p l e R s m args below meth c D A Q nL (W1 ++ [hn_ai cI q n (upd f kn (hg_I x))]) nc ns lv (pc + 1) st) : hn_At p l e R s m args below meth c D A Q nL (W1 ++ [hn_ai cI q n f]) nc ns lv pc (.int (hg_I x) :: .int (hg_I i) :: .ref q :: st) := by
  subst hkn
  refine hn_iast B W1.length (f := f) (by rw [List.getElem?_append_right (Nat.le_refl _), Nat.sub_self]; rfl) hin d (W2 := W1 ++ [hn_ai cI q n (upd f (wr i).toNat (hg_I x))]) ?_ k
  rw [List.set_append_right _ _ (Nat.le_refl _), Nat.sub_self]
  rfl
theorem hn_el (B : hg_B p s m args meth c cc own ws nL D cI cA ad o A) {q n : Nat} {f : Nat → Int32} {i v : Int} {pc1 pc2 : Nat} (kn : Nat) (hkn : (wr i).toNat = kn) (hin : 0 ≤ wr i ∧ wr i < (n : Int)) (d0 : decode cc pc = .ok (.dup, 1)) (c1 : hn_cst cc (pc + 1) i pc1) (c2 : hn_cst cc pc1 v pc2) (d3 : decode cc pc2 = .ok (.iastore, 1)) (k : hn_At p l e R s m args below meth c D A Q nL (W1 ++ [hn_ai cI q n (upd f kn (hg_I v))]) nc ns lv (pc2 + 1) (.ref q :: st)) : hn_At p l e R s m args below meth c D A Q nL (W1 ++ [hn_ai cI q n f]) nc ns lv pc (.ref q :: st) := by
  refine hn_dup B d0 rfl ?_
  refine hn_cs B c1 ?_
  refine hn_cs B c2 ?_
  exact hn_iastL B hkn hin d3 k
abbrev rmX2_init : Room := { frames := 1, cells := 1, slots := 160, locals := 30 }
abbrev rmX0_init : Room := { frames := 1, cells := 8, slots := 48, locals := 30 }
abbrev rmX1_init : Room := { frames := 1, cells := 7, slots := 172, locals := 30 }
abbrev rmX3_init : Room := { frames := 1, cells := 15, slots := 1030, locals := 30 }
end HNC
set_option maxHeartbeats 4000000 in
theorem c_X2_init (l : Launch) (D : va_G) (cI cA : ClassId) (a : Nat) : hn_Mv l yX2_init (Cond.code yX2_init cX2_init 1 none :: wsL_law) rmX2_init D cI cA [hn_o a 2 [.null, .int 0, .null, .int 0, .int 0, .int 0, .int 0, .int 0, .int 0]] [.ref a] (hn_pX2 cI cA a) := by
  refine hn_met cX2_init 1 none (by decide) (Nat.le_of_ble_eq_true rfl) rfl ?_
  intro p e s m args below meth c A B hAO hm hr
  refine hn_aload_n B 0 dX2_init_0 rfl rfl ?_
  refine hn_obj B (wl_2 22 rfl) (wl_1 10 rfl) (wl_1 11 rfl) ⟨Nat.le_of_ble_eq_true rfl, Nat.le_of_ble_eq_true rfl⟩ dX2_init_1 ?_
  refine hn_aload_n B 0 dX2_init_4 rfl rfl ?_
  refine hn_sipush B dX2_init_5 rfl ?_
  refine hn_newa B (N := 160) ⟨by decide, by decide, by decide⟩ (wl_2 7 rfl) (Nat.le_of_ble_eq_true rfl) (Nat.le_of_ble_eq_true rfl) dX2_init_8 (fun q1 => ?_)
  refine hn_putF B 0 2 (f := 0) (C := RX2) (T := TX2) (N := 9) rfl tyX2 tyX2_ok nmX2 rfl inlX2 (by decide) (Nat.le_of_ble_eq_true rfl) (wl_2 23 rfl) rfl rfl hm rfl (ty := .array .int) (by decide +kernel) rfl rfl dX2_init_10 (W2 := [hn_o a 2 [.ref q1, .int 0, .null, .int 0, .int 0, .int 0, .int 0, .int 0, .int 0], hn_ai cI q1 160 (fun _ => 0)]) rfl ?_
  refine hn_aload_n B 0 dX2_init_13 rfl rfl ?_
  refine hn_aload_n B 0 dX2_init_14 rfl rfl ?_
  refine hn_get B 0 2 (f := 0) (C := RX2) (T := TX2) (N := 9) rfl rfl inlX2 (by decide) (wl_2 23 rfl) rfl rfl dX2_init_15 ?_
  refine hn_put B 0 2 (f := 2) (C := RX2) (T := TX2) (N := 9) rfl tyX2 tyX2_ok nmX2 rfl inlX2 (by decide) (Nat.le_of_ble_eq_true rfl) (wl_3 0 rfl) rfl rfl (ty := .array .int) (by decide +kernel) rfl rfl dX2_init_18 (W2 := [hn_o a 2 [.ref q1, .int 0, .ref q1, .int 0, .int 0, .int 0, .int 0, .int 0, .int 0], hn_ai cI q1 160 (fun _ => 0)]) rfl ?_
  refine hn_vret B hr (W2 := [hn_o a 2 [.ref q1, .int 0, .ref q1, .int 0, .int 0, .int 0, .int 0, .int 0, .int 0], hn_ai cI q1 160 (fun _ => 0)]) (List.range 2) (by decide) rfl ⟨q1, rfl⟩ dX2_init_21 ⟨Nat.le_of_ble_eq_true rfl, Nat.le_of_ble_eq_true rfl⟩
section HNC2
variable {p : Program} {l : Launch} {e : Env} {R : Room} {s : State} {m : MethodId} {args : Array Value} {below : List Frame} {meth : Method} {c : Code} {D : va_G} {cI cA : ClassId} {ad : Nat → Nat} {o : Nat} {A : Nat → Prop} {Q : State → Prop} {nL : Nat} {W1 W2 : va_W} {nc ns : Nat} {lv : List (Nat × Value)} {pc : Nat} {st : List Value} {cc : ByteArray} {own : String} {ws : List Cond}
theorem hn_lpX0 (B : hg_B p s m args meth c cX0_init yX0_init.cls wsL_law nL D cI cA ad o A) (hnL : 2 < nL) {a tx q : Nat} {fs : List Value} (hf : fs[1]? = some (.ref q)) : ∀ (k i : Nat) (f : Nat → Int32), i + k = 6 → (∀ j, j < i → f j = hg_I (2 ^ j)) → (∀ f' : Nat → Int32, (∀ j, j < 6 → f' j = hg_I (2 ^ j)) → hn_At p l e R s m args below meth c D A Q nL [hn_o a 0 fs, hn_ai cI q 6 f'] nc ns [(2, .int (hg_I 6)), (0, .ref a), (1, .ref tx)] 40 []) → hn_At p l e R s m args below meth c D A Q nL [hn_o a 0 fs, hn_ai cI q 6 f] nc ns [(2, .int (hg_I (i : Int))), (0, .ref a), (1, .ref tx)] 19 [] := by
  intro k
  induction k with
  | zero =>
    intro i f h1 h2 K
    have hi : i = 6 := h1
    subst hi
    refine hn_iload_n B 0 dX0_init_19 rfl rfl ?_
    refine hn_bipush B dX0_init_20 rfl ?_
    refine hn_icmp_ge (α := Unit) (X := some ()) (Y := none) (r := ()) (tgt := 40) B dX0_init_22 (by decide) (by decide) (fun _ => K f h2) (fun h => by cases h)
  | succ k ih =>
    intro i f h1 h2 K
    refine hn_iload_n B 0 dX0_init_19 rfl rfl ?_
    refine hn_bipush B dX0_init_20 rfl ?_
    refine hn_icmp_ge (α := Unit) (X := none) (Y := some ()) (r := ()) (tgt := 40) B dX0_init_22 (by decide) (by rw [wr_id (x := 6) (by omega) (by omega), wr_id (x := (i : Int)) (by omega) (by omega), if_neg (by omega)]) (fun h => by cases h) (fun _ => ?_)
    refine hn_aload_n B 1 dX0_init_25 rfl rfl ?_
    refine hn_get B 0 0 (f := 1) (C := RX0) (T := TX0) (N := 14) rfl rfl inlX0 (by decide) (wl_3 6 rfl) rfl hf dX0_init_26 ?_
    refine hn_iload_n B 0 dX0_init_29 rfl rfl ?_
    refine hn_iconst B dX0_init_30 ?_
    refine hn_iload_n B 0 dX0_init_31 rfl rfl ?_
    refine hn_ishl B dX0_init_32 ?_
    refine hn_iast B 1 (f := f) rfl (by rw [wr_id (x := (i : Int)) (by omega) (by omega)]; omega) dX0_init_33 (W2 := [hn_o a 0 fs, hn_ai cI q 6 (upd f (wr (i : Int)).toNat (hg_I (hg_shl 1 (i : Int))))]) rfl ?_
    refine hn_iinc B 0 [(2, .int (hg_I ((i : Int) + 1))), (0, .ref a), (1, .ref tx)] dX0_init_34 rfl hnL rfl ?_
    refine hn_goto B (tgt := 19) dX0_init_37 (by decide) ?_
    have hs : ∀ i, i < 6 → hg_I (hg_shl 1 ((i : Nat) : Int)) = hg_I (2 ^ i) := by decide +kernel
    rw [show (i : Int) + 1 = ((i + 1 : Nat) : Int) by omega]
    refine ih (i + 1) _ (by omega) (fun j hj => ?_) K
    rw [wr_id (x := (i : Int)) (by omega) (by omega), show (i : Int).toNat = i by omega]
    unfold upd
    by_cases q2 : j = i
    · rw [if_pos q2, q2]; exact hs i (by omega)
    · rw [if_neg q2]; exact h2 j (by omega)
end HNC2
set_option maxHeartbeats 4000000 in
theorem c_X0_init (l : Launch) (D : va_G) (cI cA : ClassId) (a tx : Nat) : hn_Mv l yX0_init (Cond.code yX0_init cX0_init 3 none :: wsL_law) rmX0_init D cI cA [hn_o a 0 [.null, .null, .null, .null, .null, .null, .null, .null, .null, .int 0, .int 0, .int 0, .int 0, .int 0]] [.ref a, .ref tx] (hn_pX0 cI cA a tx) := by
  refine hn_met cX0_init 3 none (by decide) (Nat.le_of_ble_eq_true rfl) rfl ?_
  intro p e s m args below meth c A B hAO hm hr
  refine hn_aload_n B 0 dX0_init_0 rfl rfl ?_
  refine hn_obj B (wl_3 4 rfl) (wl_1 10 rfl) (wl_1 11 rfl) ⟨Nat.le_of_ble_eq_true rfl, Nat.le_of_ble_eq_true rfl⟩ dX0_init_1 ?_
  refine hn_aload_n B 0 dX0_init_4 rfl rfl ?_
  refine hn_aload_n B 1 dX0_init_5 rfl rfl ?_
  refine hn_putF B 0 0 (f := 0) (C := RX0) (T := TX0) (N := 14) rfl tyX0 tyX0_ok nmX0 rfl inlX0 (by decide) (Nat.le_of_ble_eq_true rfl) (wl_3 5 rfl) rfl rfl hm rfl (ty := .object "HatGoesRound$Texts") (by decide +kernel) rfl rfl dX0_init_6 (W2 := [hn_o a 0 [.ref tx, .null, .null, .null, .null, .null, .null, .null, .null, .int 0, .int 0, .int 0, .int 0, .int 0]]) rfl ?_
  refine hn_aload_n B 0 dX0_init_9 rfl rfl ?_
  refine hn_bipush B dX0_init_10 rfl ?_
  refine hn_newa B (N := 6) ⟨by decide, by decide, by decide⟩ (wl_2 7 rfl) (Nat.le_of_ble_eq_true rfl) (Nat.le_of_ble_eq_true rfl) dX0_init_12 (fun q1 => ?_)
  refine hn_putF B 0 0 (f := 1) (C := RX0) (T := TX0) (N := 14) rfl tyX0 tyX0_ok nmX0 rfl inlX0 (by decide) (Nat.le_of_ble_eq_true rfl) (wl_3 6 rfl) rfl rfl hm rfl (ty := .array .int) (by decide +kernel) rfl rfl dX0_init_14 (W2 := [hn_o a 0 [.ref tx, .ref q1, .null, .null, .null, .null, .null, .null, .null, .int 0, .int 0, .int 0, .int 0, .int 0], hn_ai cI q1 6 (fun _ => 0)]) rfl ?_
  refine hn_iconst B dX0_init_17 ?_
  refine hn_istore_n B [(2, .int (hg_I 0)), (0, .ref a), (1, .ref tx)] dX0_init_18 rfl (by decide) rfl ?_
  refine hn_lpX0 B (by decide) rfl 6 0 (fun _ => 0) rfl (fun j hj => absurd hj (by omega)) (fun f1 hf1 => ?_)
  refine hn_aload_n B 1 dX0_init_40 rfl rfl ?_
  refine hn_bipush B dX0_init_41 rfl ?_
  refine hn_newa B (N := 6) ⟨by decide, by decide, by decide⟩ (wl_2 7 rfl) (Nat.le_of_ble_eq_true rfl) (Nat.le_of_ble_eq_true rfl) dX0_init_43 (fun q2 => ?_)
  refine hn_putF B 0 0 (f := 2) (C := RX0) (T := TX0) (N := 14) rfl tyX0 tyX0_ok nmX0 rfl inlX0 (by decide) (Nat.le_of_ble_eq_true rfl) (wl_3 7 rfl) rfl rfl hm rfl (ty := .array .int) (by decide +kernel) rfl rfl dX0_init_45 (W2 := [hn_o a 0 [.ref tx, .ref q1, .ref q2, .null, .null, .null, .null, .null, .null, .int 0, .int 0, .int 0, .int 0, .int 0], hn_ai cI q1 6 f1, hn_ai cI q2 6 (fun _ => 0)]) rfl ?_
  refine hn_aload_n B 1 dX0_init_48 rfl rfl ?_
  refine hn_bipush B dX0_init_49 rfl ?_
  refine hn_newa B (N := 6) ⟨by decide, by decide, by decide⟩ (wl_2 7 rfl) (Nat.le_of_ble_eq_true rfl) (Nat.le_of_ble_eq_true rfl) dX0_init_51 (fun q3 => ?_)
  refine hn_putF B 0 0 (f := 3) (C := RX0) (T := TX0) (N := 14) rfl tyX0 tyX0_ok nmX0 rfl inlX0 (by decide) (Nat.le_of_ble_eq_true rfl) (wl_3 8 rfl) rfl rfl hm rfl (ty := .array .int) (by decide +kernel) rfl rfl dX0_init_53 (W2 := [hn_o a 0 [.ref tx, .ref q1, .ref q2, .ref q3, .null, .null, .null, .null, .null, .int 0, .int 0, .int 0, .int 0, .int 0], hn_ai cI q1 6 f1, hn_ai cI q2 6 (fun _ => 0), hn_ai cI q3 6 (fun _ => 0)]) rfl ?_
  refine hn_aload_n B 1 dX0_init_56 rfl rfl ?_
  refine hn_bipush B dX0_init_57 rfl ?_
  refine hn_newa B (N := 6) ⟨by decide, by decide, by decide⟩ (wl_2 7 rfl) (Nat.le_of_ble_eq_true rfl) (Nat.le_of_ble_eq_true rfl) dX0_init_59 (fun q4 => ?_)
  refine hn_putF B 0 0 (f := 4) (C := RX0) (T := TX0) (N := 14) rfl tyX0 tyX0_ok nmX0 rfl inlX0 (by decide) (Nat.le_of_ble_eq_true rfl) (wl_3 9 rfl) rfl rfl hm rfl (ty := .array .int) (by decide +kernel) rfl rfl dX0_init_61 (W2 := [hn_o a 0 [.ref tx, .ref q1, .ref q2, .ref q3, .ref q4, .null, .null, .null, .null, .int 0, .int 0, .int 0, .int 0, .int 0], hn_ai cI q1 6 f1, hn_ai cI q2 6 (fun _ => 0), hn_ai cI q3 6 (fun _ => 0), hn_ai cI q4 6 (fun _ => 0)]) rfl ?_
  refine hn_aload_n B 1 dX0_init_64 rfl rfl ?_
  refine hn_bipush B dX0_init_65 rfl ?_
  refine hn_newa B (N := 6) ⟨by decide, by decide, by decide⟩ (wl_2 7 rfl) (Nat.le_of_ble_eq_true rfl) (Nat.le_of_ble_eq_true rfl) dX0_init_67 (fun q5 => ?_)
  refine hn_putF B 0 0 (f := 5) (C := RX0) (T := TX0) (N := 14) rfl tyX0 tyX0_ok nmX0 rfl inlX0 (by decide) (Nat.le_of_ble_eq_true rfl) (wl_3 10 rfl) rfl rfl hm rfl (ty := .array .int) (by decide +kernel) rfl rfl dX0_init_69 (W2 := [hn_o a 0 [.ref tx, .ref q1, .ref q2, .ref q3, .ref q4, .ref q5, .null, .null, .null, .int 0, .int 0, .int 0, .int 0, .int 0], hn_ai cI q1 6 f1, hn_ai cI q2 6 (fun _ => 0), hn_ai cI q3 6 (fun _ => 0), hn_ai cI q4 6 (fun _ => 0), hn_ai cI q5 6 (fun _ => 0)]) rfl ?_
  refine hn_aload_n B 1 dX0_init_72 rfl rfl ?_
  refine hn_bipush B dX0_init_73 rfl ?_
  refine hn_newa B (N := 6) ⟨by decide, by decide, by decide⟩ (wl_2 7 rfl) (Nat.le_of_ble_eq_true rfl) (Nat.le_of_ble_eq_true rfl) dX0_init_75 (fun q6 => ?_)
  refine hn_putF B 0 0 (f := 6) (C := RX0) (T := TX0) (N := 14) rfl tyX0 tyX0_ok nmX0 rfl inlX0 (by decide) (Nat.le_of_ble_eq_true rfl) (wl_3 11 rfl) rfl rfl hm rfl (ty := .array .int) (by decide +kernel) rfl rfl dX0_init_77 (W2 := [hn_o a 0 [.ref tx, .ref q1, .ref q2, .ref q3, .ref q4, .ref q5, .ref q6, .null, .null, .int 0, .int 0, .int 0, .int 0, .int 0], hn_ai cI q1 6 f1, hn_ai cI q2 6 (fun _ => 0), hn_ai cI q3 6 (fun _ => 0), hn_ai cI q4 6 (fun _ => 0), hn_ai cI q5 6 (fun _ => 0), hn_ai cI q6 6 (fun _ => 0)]) rfl ?_
  refine hn_aload_n B 1 dX0_init_80 rfl rfl ?_
  refine hn_bipush B dX0_init_81 rfl ?_
  refine hn_newa B (N := 6) ⟨by decide, by decide, by decide⟩ (wl_2 7 rfl) (Nat.le_of_ble_eq_true rfl) (Nat.le_of_ble_eq_true rfl) dX0_init_83 (fun q7 => ?_)
  refine hn_putF B 0 0 (f := 7) (C := RX0) (T := TX0) (N := 14) rfl tyX0 tyX0_ok nmX0 rfl inlX0 (by decide) (Nat.le_of_ble_eq_true rfl) (wl_3 12 rfl) rfl rfl hm rfl (ty := .array .int) (by decide +kernel) rfl rfl dX0_init_85 (W2 := [hn_o a 0 [.ref tx, .ref q1, .ref q2, .ref q3, .ref q4, .ref q5, .ref q6, .ref q7, .null, .int 0, .int 0, .int 0, .int 0, .int 0], hn_ai cI q1 6 f1, hn_ai cI q2 6 (fun _ => 0), hn_ai cI q3 6 (fun _ => 0), hn_ai cI q4 6 (fun _ => 0), hn_ai cI q5 6 (fun _ => 0), hn_ai cI q6 6 (fun _ => 0), hn_ai cI q7 6 (fun _ => 0)]) rfl ?_
  refine hn_aload_n B 1 dX0_init_88 rfl rfl ?_
  refine hn_bipush B dX0_init_89 rfl ?_
  refine hn_newa B (N := 6) ⟨by decide, by decide, by decide⟩ (wl_2 7 rfl) (Nat.le_of_ble_eq_true rfl) (Nat.le_of_ble_eq_true rfl) dX0_init_91 (fun q8 => ?_)
  refine hn_putF B 0 0 (f := 8) (C := RX0) (T := TX0) (N := 14) rfl tyX0 tyX0_ok nmX0 rfl inlX0 (by decide) (Nat.le_of_ble_eq_true rfl) (wl_3 13 rfl) rfl rfl hm rfl (ty := .array .int) (by decide +kernel) rfl rfl dX0_init_93 (W2 := [hn_o a 0 [.ref tx, .ref q1, .ref q2, .ref q3, .ref q4, .ref q5, .ref q6, .ref q7, .ref q8, .int 0, .int 0, .int 0, .int 0, .int 0], hn_ai cI q1 6 f1, hn_ai cI q2 6 (fun _ => 0), hn_ai cI q3 6 (fun _ => 0), hn_ai cI q4 6 (fun _ => 0), hn_ai cI q5 6 (fun _ => 0), hn_ai cI q6 6 (fun _ => 0), hn_ai cI q7 6 (fun _ => 0), hn_ai cI q8 6 (fun _ => 0)]) rfl ?_
  refine hn_vret B hr (W2 := [hn_o a 0 [.ref tx, .ref q1, .ref q2, .ref q3, .ref q4, .ref q5, .ref q6, .ref q7, .ref q8, .int 0, .int 0, .int 0, .int 0, .int 0], hn_ai cI q1 6 f1, hn_ai cI q2 6 (fun _ => 0), hn_ai cI q3 6 (fun _ => 0), hn_ai cI q4 6 (fun _ => 0), hn_ai cI q5 6 (fun _ => 0), hn_ai cI q6 6 (fun _ => 0), hn_ai cI q7 6 (fun _ => 0), hn_ai cI q8 6 (fun _ => 0)]) (List.range 9) (by decide) rfl ⟨q1, q2, q3, q4, q5, q6, q7, q8, f1, hf1, rfl⟩ dX0_init_96 ⟨Nat.le_of_ble_eq_true rfl, Nat.le_of_ble_eq_true rfl⟩
section HNC3
variable {p : Program} {l : Launch} {e : Env} {R : Room} {s : State} {m : MethodId} {args : Array Value} {below : List Frame} {meth : Method} {c : Code} {D : va_G} {cI cA : ClassId} {ad : Nat → Nat} {o : Nat} {A : Nat → Prop} {Q : State → Prop} {nL : Nat} {W1 W2 : va_W} {nc ns : Nat} {lv : List (Nat × Value)} {pc : Nat} {st : List Value} {cc : ByteArray} {own : String} {ws : List Cond}
theorem hn_lpX1 (B : hg_B p s m args meth c cX1_init yX1_init.cls wsL_law nL D cI cA ad o A) (hnL : 1 < nL) {a q : Nat} {fs : List Value} {W3 : va_W} (hf : fs[0]? = some (.ref q)) : ∀ (k i : Nat) (f : Nat → Int32), i + k = 4 → (∀ j, j < i → f j = hg_I (-1)) → (∀ f' : Nat → Int32, (∀ j, j < 4 → f' j = hg_I (-1)) → hn_At p l e R s m args below meth c D A Q nL (hn_o a 1 fs :: hn_ai cI q 4 f' :: W3) nc ns [(1, .int (hg_I 4)), (0, .ref a)] 49 []) → hn_At p l e R s m args below meth c D A Q nL (hn_o a 1 fs :: hn_ai cI q 4 f :: W3) nc ns [(1, .int (hg_I (i : Int))), (0, .ref a)] 31 [] := by
  intro k
  induction k with
  | zero =>
    intro i f h1 h2 K
    have hi : i = 4 := h1
    subst hi
    refine hn_iload_n B 0 dX1_init_31 rfl rfl ?_
    refine hn_iconst B dX1_init_32 ?_
    refine hn_icmp_ge (α := Unit) (X := some ()) (Y := none) (r := ()) (tgt := 49) B dX1_init_33 (by decide) (by decide) (fun _ => K f h2) (fun h => by cases h)
  | succ k ih =>
    intro i f h1 h2 K
    refine hn_iload_n B 0 dX1_init_31 rfl rfl ?_
    refine hn_iconst B dX1_init_32 ?_
    refine hn_icmp_ge (α := Unit) (X := none) (Y := some ()) (r := ()) (tgt := 49) B dX1_init_33 (by decide) (by rw [wr_id (x := 4) (by omega) (by omega), wr_id (x := (i : Int)) (by omega) (by omega), if_neg (by omega)]) (fun h => by cases h) (fun _ => ?_)
    refine hn_aload_n B 1 dX1_init_36 rfl rfl ?_
    refine hn_get B 0 1 (f := 0) (C := RX1) (T := TX1) (N := 3) rfl rfl inlX1 (by decide) (wl_3 18 rfl) rfl hf dX1_init_37 ?_
    refine hn_iload_n B 0 dX1_init_40 rfl rfl ?_
    refine hn_iconst B dX1_init_41 ?_
    refine hn_iast B 1 (f := f) rfl (by rw [wr_id (x := (i : Int)) (by omega) (by omega)]; omega) dX1_init_42 (W2 := hn_o a 1 fs :: hn_ai cI q 4 (upd f (wr (i : Int)).toNat (hg_I (-1))) :: W3) rfl ?_
    refine hn_iinc B 0 [(1, .int (hg_I ((i : Int) + 1))), (0, .ref a)] dX1_init_43 rfl hnL rfl ?_
    refine hn_goto B (tgt := 31) dX1_init_46 (by decide) ?_
    rw [show (i : Int) + 1 = ((i + 1 : Nat) : Int) by omega]
    refine ih (i + 1) _ (by omega) (fun j hj => ?_) K
    rw [wr_id (x := (i : Int)) (by omega) (by omega), show (i : Int).toNat = i by omega]
    unfold upd
    by_cases q2 : j = i
    · rw [if_pos q2]
    · rw [if_neg q2]; exact h2 j (by omega)
theorem hn_lpX3 (B : hg_B p s m args meth c cX3_init yX3_init.cls wsL_law nL D cI cA ad o A) (hnL : 1 < nL) {a q : Nat} {r : Nat → Nat} {fs : List Value} {Wa Wb : va_W} (hw0 : Wa[0]? = some (hn_o a 3 fs)) (hwq : Wa[8]? = some (hn_aq cA q 6 (fun i => if i < 6 then some (r i) else none))) (hl9 : Wa.length = 9) (hf : fs[1]? = some (.ref q)) : ∀ (k i : Nat) (f : Nat → Int32), i + k = 3 → (∀ j, j < i → f j = hg_I (j + 1)) → (∀ f' : Nat → Int32, (∀ j, j < 3 → f' j = hg_I (j + 1)) → hn_At p l e R s m args below meth c D A Q nL (Wa ++ hn_ai cI (r 0) 3 f' :: Wb) nc ns [(1, .int (hg_I 3)), (0, .ref a)] 88 []) → hn_At p l e R s m args below meth c D A Q nL (Wa ++ hn_ai cI (r 0) 3 f :: Wb) nc ns [(1, .int (hg_I (i : Int))), (0, .ref a)] 66 [] := by
  have hA0 : ∀ z : Nat × va_E, ∀ k, k < 9 → (Wa ++ z :: Wb)[k]? = Wa[k]? := fun z k hk => List.getElem?_append_left (by omega)
  have hA9 : ∀ z : Nat × va_E, (Wa ++ z :: Wb)[9]? = some z := fun z => by rw [List.getElem?_append_right (by omega), hl9]; rfl
  have hS9 : ∀ z z' : Nat × va_E, (Wa ++ z :: Wb).set 9 z' = Wa ++ z' :: Wb := fun z z' => by rw [List.set_append_right _ _ (by omega), hl9]; rfl
  intro k
  induction k with
  | zero =>
    intro i f h1 h2 K
    have hi : i = 3 := h1
    subst hi
    refine hn_iload_n B 0 dX3_init_66 rfl rfl ?_
    refine hn_iconst B dX3_init_67 ?_
    refine hn_icmp_ge (α := Unit) (X := some ()) (Y := none) (r := ()) (tgt := 88) B dX3_init_68 (by decide) (by decide) (fun _ => K f h2) (fun h => by cases h)
  | succ k ih =>
    intro i f h1 h2 K
    refine hn_iload_n B 0 dX3_init_66 rfl rfl ?_
    refine hn_iconst B dX3_init_67 ?_
    refine hn_icmp_ge (α := Unit) (X := none) (Y := some ()) (r := ()) (tgt := 88) B dX3_init_68 (by decide) (by rw [wr_id (x := 3) (by omega) (by omega), wr_id (x := (i : Int)) (by omega) (by omega), if_neg (by omega)]) (fun h => by cases h) (fun _ => ?_)
    refine hn_aload_n B 1 dX3_init_71 rfl rfl ?_
    refine hn_get B 0 3 (f := 1) (C := RX3) (T := TX3) (N := 4) rfl (by rw [hA0 _ 0 (by omega)]; exact hw0) inlX3 (by decide) (wl_2 16 rfl) rfl hf dX3_init_72 ?_
    refine hn_iconst B dX3_init_75 ?_
    refine hn_aald B 8 (by rw [hA0 _ 8 (by omega)]; exact hwq) (by decide) (r := r 0) rfl dX3_init_76 ?_
    refine hn_iload_n B 0 dX3_init_77 rfl rfl ?_
    refine hn_iload_n B 0 dX3_init_78 rfl rfl ?_
    refine hn_iconst B dX3_init_79 ?_
    refine hn_iadd B dX3_init_80 ?_
    refine hn_iast B 9 (f := f) (hA9 _) (by rw [wr_id (x := (i : Int)) (by omega) (by omega)]; omega) dX3_init_81 (W2 := Wa ++ hn_ai cI (r 0) 3 (upd f (wr (i : Int)).toNat (hg_I ((i : Int) + 1))) :: Wb) (hS9 _ _) ?_
    refine hn_iinc B 0 [(1, .int (hg_I ((i : Int) + 1))), (0, .ref a)] dX3_init_82 rfl hnL rfl ?_
    refine hn_goto B (tgt := 66) dX3_init_85 (by decide) ?_
    rw [show (i : Int) + 1 = ((i + 1 : Nat) : Int) by omega]
    refine ih (i + 1) _ (by omega) (fun j hj => ?_) K
    rw [wr_id (x := (i : Int)) (by omega) (by omega), show (i : Int).toNat = i by omega]
    unfold upd
    by_cases q2 : j = i
    · rw [if_pos q2, q2]; rfl
    · rw [if_neg q2]; exact h2 j (by omega)
end HNC3
set_option maxHeartbeats 4000000 in
theorem c_X1_init (l : Launch) (D : va_G) (cI cA : ClassId) (a : Nat) : hn_Mv l yX1_init (Cond.code yX1_init cX1_init 2 none :: wsL_law) rmX1_init D cI cA [hn_o a 1 [.null, .null, .null]] [.ref a] (hn_pX1 cI cA a) := by
  refine hn_met cX1_init 2 none (by decide) (Nat.le_of_ble_eq_true rfl) rfl ?_
  intro p e s m args below meth c A B hAO hm hr
  refine hn_aload_n B 0 dX1_init_0 rfl rfl ?_
  refine hn_obj B (wl_3 17 rfl) (wl_1 10 rfl) (wl_1 11 rfl) ⟨Nat.le_of_ble_eq_true rfl, Nat.le_of_ble_eq_true rfl⟩ dX1_init_1 ?_
  refine hn_aload_n B 0 dX1_init_4 rfl rfl ?_
  refine hn_iconst B dX1_init_5 ?_
  refine hn_newa B (N := 4) ⟨by decide, by decide, by decide⟩ (wl_2 7 rfl) (Nat.le_of_ble_eq_true rfl) (Nat.le_of_ble_eq_true rfl) dX1_init_6 (fun q1 => ?_)
  refine hn_putF B 0 1 (f := 0) (C := RX1) (T := TX1) (N := 3) rfl tyX1 tyX1_ok nmX1 rfl inlX1 (by decide) (Nat.le_of_ble_eq_true rfl) (wl_3 18 rfl) rfl rfl hm rfl (ty := .array .int) (by decide +kernel) rfl rfl dX1_init_8 (W2 := [hn_o a 1 [.ref q1, .null, .null], hn_ai cI q1 4 (fun _ => 0)]) rfl ?_
  refine hn_aload_n B 0 dX1_init_11 rfl rfl ?_
  refine hn_iconst B dX1_init_12 ?_
  refine hn_newa B (N := 4) ⟨by decide, by decide, by decide⟩ (wl_2 7 rfl) (Nat.le_of_ble_eq_true rfl) (Nat.le_of_ble_eq_true rfl) dX1_init_13 (fun q2 => ?_)
  refine hn_putF B 0 1 (f := 1) (C := RX1) (T := TX1) (N := 3) rfl tyX1 tyX1_ok nmX1 rfl inlX1 (by decide) (Nat.le_of_ble_eq_true rfl) (wl_3 19 rfl) rfl rfl hm rfl (ty := .array .int) (by decide +kernel) rfl rfl dX1_init_15 (W2 := [hn_o a 1 [.ref q1, .ref q2, .null], hn_ai cI q1 4 (fun _ => 0), hn_ai cI q2 4 (fun _ => 0)]) rfl ?_
  refine hn_aload_n B 0 dX1_init_18 rfl rfl ?_
  refine hn_iconst B dX1_init_19 ?_
  refine hn_bipush B dX1_init_20 rfl ?_
  refine hn_mna B hAO (N := 4) (K := 40) ⟨by decide, by decide, by decide⟩ ⟨by decide, by decide, by decide⟩ (wl_2 7 rfl) (wl_3 20 rfl) (Nat.le_of_ble_eq_true rfl) (Nat.le_of_ble_eq_true rfl) dX1_init_22 (fun q3 r3 => ?_)
  refine hn_putF B 0 1 (f := 2) (C := RX1) (T := TX1) (N := 3) rfl tyX1 tyX1_ok nmX1 rfl inlX1 (by decide) (Nat.le_of_ble_eq_true rfl) (wl_3 21 rfl) rfl rfl hm rfl (ty := .array (.array .int)) (by decide +kernel) rfl rfl dX1_init_26 (W2 := [hn_o a 1 [.ref q1, .ref q2, .ref q3], hn_ai cI q1 4 (fun _ => 0), hn_ai cI q2 4 (fun _ => 0), hn_aq cA q3 4 (fun i => if i < 4 then some (r3 i) else none), hn_ai cI (r3 0) 40 (fun _ => 0), hn_ai cI (r3 1) 40 (fun _ => 0), hn_ai cI (r3 2) 40 (fun _ => 0), hn_ai cI (r3 3) 40 (fun _ => 0)]) rfl ?_
  refine hn_iconst B dX1_init_29 ?_
  refine hn_istore_n B [(1, .int (hg_I 0)), (0, .ref a)] dX1_init_30 rfl (by decide) rfl ?_
  refine hn_lpX1 B (by decide) rfl 4 0 (fun _ => 0) rfl (fun j hj => absurd hj (by omega)) (fun f1 hf1 => ?_)
  refine hn_vret B hr (W2 := [hn_o a 1 [.ref q1, .ref q2, .ref q3], hn_ai cI q1 4 f1, hn_ai cI q2 4 (fun _ => 0), hn_aq cA q3 4 (fun i => if i < 4 then some (r3 i) else none), hn_ai cI (r3 0) 40 (fun _ => 0), hn_ai cI (r3 1) 40 (fun _ => 0), hn_ai cI (r3 2) 40 (fun _ => 0), hn_ai cI (r3 3) 40 (fun _ => 0)]) (List.range 8) (by decide) rfl ⟨q1, q2, q3, r3, f1, hf1, rfl⟩ dX1_init_49 ⟨Nat.le_of_ble_eq_true rfl, Nat.le_of_ble_eq_true rfl⟩
set_option maxHeartbeats 4000000 in
theorem c_X3_init (l : Launch) (D : va_G) (cI cA : ClassId) (a : Nat) : hn_Mv l yX3_init (Cond.code yX3_init cX3_init 2 none :: wsL_law) rmX3_init D cI cA [hn_o a 3 [.null, .null, .null, .int 0]] [.ref a] (hn_pX3 cI cA a) := by
  refine hn_met cX3_init 2 none (by decide) (Nat.le_of_ble_eq_true rfl) rfl ?_
  intro p e s m args below meth c A B hAO hm hr
  refine hn_aload_n B 0 dX3_init_0 rfl rfl ?_
  refine hn_obj B (wl_2 13 rfl) (wl_1 10 rfl) (wl_1 11 rfl) ⟨Nat.le_of_ble_eq_true rfl, Nat.le_of_ble_eq_true rfl⟩ dX3_init_1 ?_
  refine hn_aload_n B 0 dX3_init_4 rfl rfl ?_
  refine hn_bipush B dX3_init_5 rfl ?_
  refine hn_sipush B dX3_init_7 rfl ?_
  refine hn_mna B hAO (N := 6) (K := 160) ⟨by decide, by decide, by decide⟩ ⟨by decide, by decide, by decide⟩ (wl_2 7 rfl) (wl_2 14 rfl) (Nat.le_of_ble_eq_true rfl) (Nat.le_of_ble_eq_true rfl) dX3_init_10 (fun q1 r1 => ?_)
  refine hn_putF B 0 3 (f := 0) (C := RX3) (T := TX3) (N := 4) rfl tyX3 tyX3_ok nmX3 rfl inlX3 (by decide) (Nat.le_of_ble_eq_true rfl) (wl_2 15 rfl) rfl rfl hm rfl (ty := .array (.array .int)) (by decide +kernel) rfl rfl dX3_init_14 (W2 := [hn_o a 3 [.ref q1, .null, .null, .int 0], hn_aq cA q1 6 (fun i => if i < 6 then some (r1 i) else none), hn_ai cI (r1 0) 160 (fun _ => 0), hn_ai cI (r1 1) 160 (fun _ => 0), hn_ai cI (r1 2) 160 (fun _ => 0), hn_ai cI (r1 3) 160 (fun _ => 0), hn_ai cI (r1 4) 160 (fun _ => 0), hn_ai cI (r1 5) 160 (fun _ => 0)]) rfl ?_
  refine hn_aload_n B 0 dX3_init_17 rfl rfl ?_
  refine hn_bipush B dX3_init_18 rfl ?_
  refine hn_iconst B dX3_init_20 ?_
  refine hn_mna B hAO (N := 6) (K := 3) ⟨by decide, by decide, by decide⟩ ⟨by decide, by decide, by decide⟩ (wl_2 7 rfl) (wl_2 14 rfl) (Nat.le_of_ble_eq_true rfl) (Nat.le_of_ble_eq_true rfl) dX3_init_21 (fun q2 r2 => ?_)
  refine hn_putF B 0 3 (f := 1) (C := RX3) (T := TX3) (N := 4) rfl tyX3 tyX3_ok nmX3 rfl inlX3 (by decide) (Nat.le_of_ble_eq_true rfl) (wl_2 16 rfl) rfl rfl hm rfl (ty := .array (.array .int)) (by decide +kernel) rfl rfl dX3_init_25 (W2 := [hn_o a 3 [.ref q1, .ref q2, .null, .int 0], hn_aq cA q1 6 (fun i => if i < 6 then some (r1 i) else none), hn_ai cI (r1 0) 160 (fun _ => 0), hn_ai cI (r1 1) 160 (fun _ => 0), hn_ai cI (r1 2) 160 (fun _ => 0), hn_ai cI (r1 3) 160 (fun _ => 0), hn_ai cI (r1 4) 160 (fun _ => 0), hn_ai cI (r1 5) 160 (fun _ => 0), hn_aq cA q2 6 (fun i => if i < 6 then some (r2 i) else none), hn_ai cI (r2 0) 3 (fun _ => 0), hn_ai cI (r2 1) 3 (fun _ => 0), hn_ai cI (r2 2) 3 (fun _ => 0), hn_ai cI (r2 3) 3 (fun _ => 0), hn_ai cI (r2 4) 3 (fun _ => 0), hn_ai cI (r2 5) 3 (fun _ => 0)]) rfl ?_
  refine hn_aload_n B 0 dX3_init_28 rfl rfl ?_
  refine hn_bipush B dX3_init_29 rfl ?_
  refine hn_newa B (N := 40) ⟨by decide, by decide, by decide⟩ (wl_2 7 rfl) (Nat.le_of_ble_eq_true rfl) (Nat.le_of_ble_eq_true rfl) dX3_init_31 (fun q3 => ?_)
  refine hn_putF B 0 3 (f := 2) (C := RX3) (T := TX3) (N := 4) rfl tyX3 tyX3_ok nmX3 rfl inlX3 (by decide) (Nat.le_of_ble_eq_true rfl) (wl_2 17 rfl) rfl rfl hm rfl (ty := .array .int) (by decide +kernel) rfl rfl dX3_init_33 (W2 := [hn_o a 3 [.ref q1, .ref q2, .ref q3, .int 0], hn_aq cA q1 6 (fun i => if i < 6 then some (r1 i) else none), hn_ai cI (r1 0) 160 (fun _ => 0), hn_ai cI (r1 1) 160 (fun _ => 0), hn_ai cI (r1 2) 160 (fun _ => 0), hn_ai cI (r1 3) 160 (fun _ => 0), hn_ai cI (r1 4) 160 (fun _ => 0), hn_ai cI (r1 5) 160 (fun _ => 0), hn_aq cA q2 6 (fun i => if i < 6 then some (r2 i) else none), hn_ai cI (r2 0) 3 (fun _ => 0), hn_ai cI (r2 1) 3 (fun _ => 0), hn_ai cI (r2 2) 3 (fun _ => 0), hn_ai cI (r2 3) 3 (fun _ => 0), hn_ai cI (r2 4) 3 (fun _ => 0), hn_ai cI (r2 5) 3 (fun _ => 0), hn_ai cI q3 40 (fun _ => 0)]) rfl ?_
  refine hn_aload_n B 0 dX3_init_36 rfl rfl ?_
  refine hn_get B 0 3 (f := 0) (C := RX3) (T := TX3) (N := 4) rfl rfl inlX3 (by decide) (wl_2 15 rfl) rfl rfl dX3_init_37 ?_
  refine hn_iconst B dX3_init_40 ?_
  refine hn_aald B 1 rfl (by decide) (r := r1 0) rfl dX3_init_41 ?_
  refine hn_iconst B dX3_init_42 ?_
  refine hn_iconst B dX3_init_43 ?_
  refine hn_iast B 2 (f := (fun _ => 0)) rfl (by decide) dX3_init_44 (W2 := [hn_o a 3 [.ref q1, .ref q2, .ref q3, .int 0], hn_aq cA q1 6 (fun i => if i < 6 then some (r1 i) else none), hn_ai cI (r1 0) 160 (upd (fun _ => 0) 0 (hg_I (-1))), hn_ai cI (r1 1) 160 (fun _ => 0), hn_ai cI (r1 2) 160 (fun _ => 0), hn_ai cI (r1 3) 160 (fun _ => 0), hn_ai cI (r1 4) 160 (fun _ => 0), hn_ai cI (r1 5) 160 (fun _ => 0), hn_aq cA q2 6 (fun i => if i < 6 then some (r2 i) else none), hn_ai cI (r2 0) 3 (fun _ => 0), hn_ai cI (r2 1) 3 (fun _ => 0), hn_ai cI (r2 2) 3 (fun _ => 0), hn_ai cI (r2 3) 3 (fun _ => 0), hn_ai cI (r2 4) 3 (fun _ => 0), hn_ai cI (r2 5) 3 (fun _ => 0), hn_ai cI q3 40 (fun _ => 0)]) rfl ?_
  refine hn_aload_n B 0 dX3_init_45 rfl rfl ?_
  refine hn_get B 0 3 (f := 0) (C := RX3) (T := TX3) (N := 4) rfl rfl inlX3 (by decide) (wl_2 15 rfl) rfl rfl dX3_init_46 ?_
  refine hn_iconst B dX3_init_49 ?_
  refine hn_aald B 1 rfl (by decide) (r := r1 0) rfl dX3_init_50 ?_
  refine hn_iconst B dX3_init_51 ?_
  refine hn_bipush B dX3_init_52 rfl ?_
  refine hn_iast B 2 (f := (upd (fun _ => 0) 0 (hg_I (-1)))) rfl (by decide) dX3_init_54 (W2 := [hn_o a 3 [.ref q1, .ref q2, .ref q3, .int 0], hn_aq cA q1 6 (fun i => if i < 6 then some (r1 i) else none), hn_ai cI (r1 0) 160 (upd (upd (fun _ => 0) 0 (hg_I (-1))) 1 (hg_I (-2))), hn_ai cI (r1 1) 160 (fun _ => 0), hn_ai cI (r1 2) 160 (fun _ => 0), hn_ai cI (r1 3) 160 (fun _ => 0), hn_ai cI (r1 4) 160 (fun _ => 0), hn_ai cI (r1 5) 160 (fun _ => 0), hn_aq cA q2 6 (fun i => if i < 6 then some (r2 i) else none), hn_ai cI (r2 0) 3 (fun _ => 0), hn_ai cI (r2 1) 3 (fun _ => 0), hn_ai cI (r2 2) 3 (fun _ => 0), hn_ai cI (r2 3) 3 (fun _ => 0), hn_ai cI (r2 4) 3 (fun _ => 0), hn_ai cI (r2 5) 3 (fun _ => 0), hn_ai cI q3 40 (fun _ => 0)]) rfl ?_
  refine hn_aload_n B 0 dX3_init_55 rfl rfl ?_
  refine hn_get B 0 3 (f := 0) (C := RX3) (T := TX3) (N := 4) rfl rfl inlX3 (by decide) (wl_2 15 rfl) rfl rfl dX3_init_56 ?_
  refine hn_iconst B dX3_init_59 ?_
  refine hn_aald B 1 rfl (by decide) (r := r1 0) rfl dX3_init_60 ?_
  refine hn_iconst B dX3_init_61 ?_
  refine hn_iconst B dX3_init_62 ?_
  refine hn_iast B 2 (f := (upd (upd (fun _ => 0) 0 (hg_I (-1))) 1 (hg_I (-2)))) rfl (by decide) dX3_init_63 (W2 := [hn_o a 3 [.ref q1, .ref q2, .ref q3, .int 0], hn_aq cA q1 6 (fun i => if i < 6 then some (r1 i) else none), hn_ai cI (r1 0) 160 (upd (upd (upd (fun _ => 0) 0 (hg_I (-1))) 1 (hg_I (-2))) 2 (hg_I 1)), hn_ai cI (r1 1) 160 (fun _ => 0), hn_ai cI (r1 2) 160 (fun _ => 0), hn_ai cI (r1 3) 160 (fun _ => 0), hn_ai cI (r1 4) 160 (fun _ => 0), hn_ai cI (r1 5) 160 (fun _ => 0), hn_aq cA q2 6 (fun i => if i < 6 then some (r2 i) else none), hn_ai cI (r2 0) 3 (fun _ => 0), hn_ai cI (r2 1) 3 (fun _ => 0), hn_ai cI (r2 2) 3 (fun _ => 0), hn_ai cI (r2 3) 3 (fun _ => 0), hn_ai cI (r2 4) 3 (fun _ => 0), hn_ai cI (r2 5) 3 (fun _ => 0), hn_ai cI q3 40 (fun _ => 0)]) rfl ?_
  refine hn_iconst B dX3_init_64 ?_
  refine hn_istore_n B [(1, .int (hg_I 0)), (0, .ref a)] dX3_init_65 rfl (by decide) rfl ?_
  refine hn_lpX3 B (by decide) (Wa := [hn_o a 3 [.ref q1, .ref q2, .ref q3, .int 0], hn_aq cA q1 6 (fun i => if i < 6 then some (r1 i) else none), hn_ai cI (r1 0) 160 (upd (upd (upd (fun _ => 0) 0 (hg_I (-1))) 1 (hg_I (-2))) 2 (hg_I 1)), hn_ai cI (r1 1) 160 (fun _ => 0), hn_ai cI (r1 2) 160 (fun _ => 0), hn_ai cI (r1 3) 160 (fun _ => 0), hn_ai cI (r1 4) 160 (fun _ => 0), hn_ai cI (r1 5) 160 (fun _ => 0), hn_aq cA q2 6 (fun i => if i < 6 then some (r2 i) else none)]) (Wb := [hn_ai cI (r2 1) 3 (fun _ => 0), hn_ai cI (r2 2) 3 (fun _ => 0), hn_ai cI (r2 3) 3 (fun _ => 0), hn_ai cI (r2 4) 3 (fun _ => 0), hn_ai cI (r2 5) 3 (fun _ => 0), hn_ai cI q3 40 (fun _ => 0)]) (r := r2) rfl rfl rfl rfl 3 0 (fun _ => 0) rfl (fun j hj => absurd hj (by omega)) (fun g1 hg1 => ?_)
  show hn_At _ _ _ _ _ _ _ _ _ _ _ _ _ _ [hn_o a 3 [.ref q1, .ref q2, .ref q3, .int 0], hn_aq cA q1 6 (fun i => if i < 6 then some (r1 i) else none), hn_ai cI (r1 0) 160 (upd (upd (upd (fun _ => 0) 0 (hg_I (-1))) 1 (hg_I (-2))) 2 (hg_I 1)), hn_ai cI (r1 1) 160 (fun _ => 0), hn_ai cI (r1 2) 160 (fun _ => 0), hn_ai cI (r1 3) 160 (fun _ => 0), hn_ai cI (r1 4) 160 (fun _ => 0), hn_ai cI (r1 5) 160 (fun _ => 0), hn_aq cA q2 6 (fun i => if i < 6 then some (r2 i) else none), hn_ai cI (r2 0) 3 g1, hn_ai cI (r2 1) 3 (fun _ => 0), hn_ai cI (r2 2) 3 (fun _ => 0), hn_ai cI (r2 3) 3 (fun _ => 0), hn_ai cI (r2 4) 3 (fun _ => 0), hn_ai cI (r2 5) 3 (fun _ => 0), hn_ai cI q3 40 (fun _ => 0)] _ _ _ _ _
  refine hn_aload_n B 1 dX3_init_88 rfl rfl ?_
  refine hn_iconst B dX3_init_89 ?_
  refine hn_put B 0 3 (f := 3) (C := RX3) (T := TX3) (N := 4) rfl tyX3 tyX3_ok nmX3 rfl inlX3 (by decide) (Nat.le_of_ble_eq_true rfl) (wl_2 18 rfl) rfl rfl (ty := .int) (by decide +kernel) rfl rfl dX3_init_90 (W2 := [hn_o a 3 [.ref q1, .ref q2, .ref q3, .int (hg_I 1)], hn_aq cA q1 6 (fun i => if i < 6 then some (r1 i) else none), hn_ai cI (r1 0) 160 (upd (upd (upd (fun _ => 0) 0 (hg_I (-1))) 1 (hg_I (-2))) 2 (hg_I 1)), hn_ai cI (r1 1) 160 (fun _ => 0), hn_ai cI (r1 2) 160 (fun _ => 0), hn_ai cI (r1 3) 160 (fun _ => 0), hn_ai cI (r1 4) 160 (fun _ => 0), hn_ai cI (r1 5) 160 (fun _ => 0), hn_aq cA q2 6 (fun i => if i < 6 then some (r2 i) else none), hn_ai cI (r2 0) 3 g1, hn_ai cI (r2 1) 3 (fun _ => 0), hn_ai cI (r2 2) 3 (fun _ => 0), hn_ai cI (r2 3) 3 (fun _ => 0), hn_ai cI (r2 4) 3 (fun _ => 0), hn_ai cI (r2 5) 3 (fun _ => 0), hn_ai cI q3 40 (fun _ => 0)]) rfl ?_
  refine hn_vret B hr (W2 := [hn_o a 3 [.ref q1, .ref q2, .ref q3, .int (hg_I 1)], hn_aq cA q1 6 (fun i => if i < 6 then some (r1 i) else none), hn_ai cI (r1 0) 160 (upd (upd (upd (fun _ => 0) 0 (hg_I (-1))) 1 (hg_I (-2))) 2 (hg_I 1)), hn_ai cI (r1 1) 160 (fun _ => 0), hn_ai cI (r1 2) 160 (fun _ => 0), hn_ai cI (r1 3) 160 (fun _ => 0), hn_ai cI (r1 4) 160 (fun _ => 0), hn_ai cI (r1 5) 160 (fun _ => 0), hn_aq cA q2 6 (fun i => if i < 6 then some (r2 i) else none), hn_ai cI (r2 0) 3 g1, hn_ai cI (r2 1) 3 (fun _ => 0), hn_ai cI (r2 2) 3 (fun _ => 0), hn_ai cI (r2 3) 3 (fun _ => 0), hn_ai cI (r2 4) 3 (fun _ => 0), hn_ai cI (r2 5) 3 (fun _ => 0), hn_ai cI q3 40 (fun _ => 0)]) (List.range 16) (by decide) rfl ⟨q1, q2, q3, r1, r2, _, g1, rfl, hg1, rfl⟩ dX3_init_93 ⟨Nat.le_of_ble_eq_true rfl, Nat.le_of_ble_eq_true rfl⟩
