section HGS
variable {p : Program} {l : Launch} {e : Env} {R : Room} {s : State} {m : MethodId} {args : Array Value} {below : List Frame} {meth : Method} {c : Code} {D : va_G} {cI cA : ClassId} {ad : Nat → Nat} {o : Nat} {A : Nat → Prop} {Q : State → Prop} {nL : Nat} {w : hg_W} {lv : List (Nat × Value)} {pc : Nat} {st : List Value} {cc : ByteArray} {own : String} {ws : List Cond}
theorem hg_sdat : ∀ i, i < 13 → hg_sle.getD i 0 = (hg_sby.getD i []).length ∧ hg_sle.getD i 0 < 100 ∧ ∀ j, j < hg_sle.getD i 0 → ((((hg_sby.getD i []).getD j 0) &&& 255).toUInt32 % 65536).toInt32 = (hg_sby.getD i []).getD j 0 ∧ narrow .char (.int ((hg_sby.getD i []).getD j 0)) = .int ((hg_sby.getD i []).getD j 0) := by
  decide +kernel
theorem z_sval (ho : o = 0) (B : hg_B p s m args meth c cc own ws nL D cI cA ad o A) {idx i : Nat} (hi : i < 13) (d : decode cc pc = .ok (.getfield idx, 3)) (hl0 : Cond.fieldLink own idx "java/lang/String" "value" "[B" ∈ ws) (k : hg_At p l e R s m args below meth c D cI cA ad o A Q nL w lv (pc + 3) (.ref (ad (2000 + i)) :: st)) : hg_At p l e R s m args below meth c D cI cA ad o A Q nL w lv pc (.ref (ad (1000 + i)) :: st) := by
  obtain ⟨hx, hb, hml, hown, hts, hlk, hA, hK, hE⟩ := B
  intro H locs ls g hl
  exact vk_getf hx hb ((hE ho).2.2.1.1 i hi).2.2.1 g.2.2 hown (hts _ hl0) (fun _ h9 => h9) d (k _ _ _ g hl)
theorem z_scod (ho : o = 0) (B : hg_B p s m args meth c cc own ws nL D cI cA ad o A) {idx i : Nat} (hi : i < 13) (d : decode cc pc = .ok (.getfield idx, 3)) (hl0 : Cond.fieldLink own idx "java/lang/String" "coder" "B" ∈ ws) (k : hg_At p l e R s m args below meth c D cI cA ad o A Q nL w lv (pc + 3) (.int (hg_I 0) :: st)) : hg_At p l e R s m args below meth c D cI cA ad o A Q nL w lv pc (.ref (ad (1000 + i)) :: st) := by
  obtain ⟨hx, hb, hml, hown, hts, hlk, hA, hK, hE⟩ := B
  intro H locs ls g hl
  exact vk_getf hx hb ((hE ho).2.2.1.1 i hi).2.1 g.2.2 hown (hts _ hl0) (fun _ h9 => h9) d (k _ _ _ g hl)
theorem z_scmp (ho : o = 0) (B : hg_B p s m args meth c cc own ws nL D cI cA ad o A) {idx : Nat} (d : decode cc pc = .ok (.getstatic idx, 3)) (hl0 : Cond.fieldLink own idx "java/lang/String" "COMPACT_STRINGS" "Z" ∈ ws) (k : hg_At p l e R s m args below meth c D cI cA ad o A Q nL w lv (pc + 3) (.int (hg_I 1) :: st)) : hg_At p l e R s m args below meth c D cI cA ad o A Q nL w lv pc st := by
  obtain ⟨hx, hb, hml, hown, hts, hlk, hA, hK, hE⟩ := B
  intro H locs ls g hl
  exact va_gets hx hb (hE ho).2.2.2.1 g.2.2 hown (hts _ hl0) (fun _ h9 => h9) d (k _ _ _ g hl)
theorem z_sfmt (ho : o = 0) (B : hg_B p s m args meth c cc own ws nL D cI cA ad o A) {idx : Nat} (d : decode cc pc = .ok (.getstatic idx, 3)) (hl0 : Cond.fieldLink own idx "jdk/internal/util/Preconditions" "SIOOBE_FORMATTER" "Ljava/util/function/BiFunction;" ∈ ws) (k : ∀ v : Value, v.category = 1 → hg_At p l e R s m args below meth c D cI cA ad o A Q nL w lv (pc + 3) (v :: st)) : hg_At p l e R s m args below meth c D cI cA ad o A Q nL w lv pc st := by
  obtain ⟨hx, hb, hml, hown, hts, hlk, hA, hK, hE⟩ := B
  intro H locs ls g hl
  obtain ⟨v, hc, hZ⟩ := (hE ho).2.2.2.2
  exact va_gets hx hb hZ g.2.2 hown (hts _ hl0) (fun _ h9 => h9) d (k v hc _ _ _ g hl)
theorem z_sbln (ho : o = 0) (B : hg_B p s m args meth c cc own ws nL D cI cA ad o A) {i : Nat} (hi : i < 13) (d : decode cc pc = .ok (.arraylength, 1)) (k : hg_At p l e R s m args below meth c D cI cA ad o A Q nL w lv (pc + 1) (.int (hg_I (hg_sle.getD i 0 : Nat)) :: st)) : hg_At p l e R s m args below meth c D cI cA ad o A Q nL w lv pc (.ref (ad (2000 + i)) :: st) := by
  obtain ⟨hx, hb, hml, hown, hts, hlk, hA, hK, hE⟩ := B
  intro H locs ls g hl
  exact va_tlen hx hb ((hE ho).2.2.1.1 i hi).2.2.2 g.2.2 (by show Int32.ofNat _ = Int32.ofInt _; exact Int32.ofInt_eq_ofNat.symm) d (k _ _ _ g hl)
theorem z_sbld (ho : o = 0) (B : hg_B p s m args meth c cc own ws nL D cI cA ad o A) {i : Nat} {x : Int} (hi : i < 13) (hx0 : 0 ≤ wr x ∧ wr x < (hg_sle.getD i 0 : Int)) (d : decode cc pc = .ok (.baload, 1)) (k : hg_At p l e R s m args below meth c D cI cA ad o A Q nL w lv (pc + 1) (.int ((hg_sby.getD i []).getD (wr x).toNat 0) :: st)) : hg_At p l e R s m args below meth c D cI cA ad o A Q nL w lv pc (.int (hg_I x) :: .ref (ad (2000 + i)) :: st) := by
  obtain ⟨hx, hb, hml, hown, hts, hlk, hA, hK, hE⟩ := B
  intro H locs ls g hl
  exact va_tb hx hb ((hE ho).2.2.1.1 i hi).2.2.2 g.2.2 (hg_in hx0) rfl d (k _ _ _ g hl)
theorem z_calliR (ho : o = 0) (B : hg_B p s m args meth c cc own ws nL D cI cA ad o A) {idx n maxL i : Nat} (hi : i < 13) {y : MethodName} {bytes : ByteArray} {ret : Option FieldType} {ws2 ws2' : List Cond} {rm : Room} {As st0 : List Value} {w1 : hg_W} {r : Int} (d : decode cc pc = .ok (.invokevirtual idx, 3)) (hM : hg_Mi l y ws2 rm D cI cA ad o w (.ref (ad (1000 + i)) :: As) w1 r) (hG : GoodIn ws (wsV own idx "java/lang/String" y ws2)) (hw : ws2 = Cond.code y bytes maxL ret :: ws2') (hrm : rm.cells = 0 ∧ rm.slots = 0) (hd : y.cls = "java/lang/String" ∧ y.cls ≠ "java/lang/invoke/MethodHandle" ∧ y.cls ≠ "java/lang/invoke/VarHandle" ∧ (parseMethodDescriptor y.desc).map (fun d => d.parameters.length) = some n) (hR : rm.frames + 1 ≤ R.frames ∧ 8 + (maxL + 11) + rm.locals ≤ R.locals) (hn : As.length = n) (hst : st0 = As.reverse ++ .ref (ad (1000 + i)) :: st) (hcat : (st.map fun v => v.category).sum ≤ 8) (k : hg_At p l e R s m args below meth c D cI cA ad o A Q nL w1 lv (pc + 3) (.int (hg_I r) :: st)) : hg_At p l e R s m args below meth c D cI cA ad o A Q nL w lv pc st0 := by
  obtain ⟨hx, hb, hml, hown, hts, hlk, hA, hK, hE⟩ := B
  intro H locs ls g hl
  have hFc : ∀ q, va_A (hg_CW cI cA ad o w) H.size q → A q := hg_CA g.2.1 (fun q h => hA q (Nat.le_trans g.2.2.1 h))
  have hrecv := vk_recv (hE ho).2.2.1 hi g.2.2
  refine va_calli (va_runV (As := As) (rest := st) ⟨hx, hb, hml, hown, hts⟩ (hM H.size) (cwV n hts hG hw hrm.1 hrm.2 hd hR) ⟨hg_blind, hrecv, fun U hU hW => ⟨rfl, by rw [hU], by rw [hU]; exact g.1, va_K.moved hW.alike hK, g.2.1.weaken (fun _ _ _ _ => trivial), fun ho => hg_ex.call (hE ho) g.2.2 hFc hU hW⟩⟩ rfl hn hl.1 hst (lv_room hcat) d ⟨Nat.zero_le _, Nat.zero_le _⟩) g.2.2 (fun q _ h => hFc q h) hFc ?_
  intro r1 u t H1 locs1 ht hvm hpost hB hz1 hk1 hS
  obtain ⟨hP1, hK1, hD1⟩ := hB
  rw [ht] at hP1
  have hpost2 : r1 = hg_I r := hpost
  subst hpost2
  exact k _ _ _ ⟨hP1, hg_CD g.2.1, hS⟩ hl
theorem z_byret (B : hg_B p s m args meth c cc own ws nL D cI cA ad o A) (hr : meth.sig.returnType = some .byte) {x : Int} (d : decode cc pc = .ok (.ireturn, 1)) (hn : narrow .byte (.int (hg_I x)) = .int (hg_I x)) : hg_At p l e R s m args below meth c D cI cA ad o A (MQ below (hg_Qi D cI cA ad o A w x) args s 0 0 A) nL w lv pc [.int (hg_I x)] := by
  obtain ⟨hx, hb, hml, hown, hts, hlk, hA, hK, hE⟩ := B
  intro H locs ls g hl
  exact W.zret hx hb hr hn (fun t ht hW => ⟨⟨_, (), rfl, rfl, by rw [ht]; exact g.1, va_K.moved hW.alike hK, g.2.1⟩, g.2.2.F ht⟩) g.2.2.2.2 d
theorem z_chret (B : hg_B p s m args meth c cc own ws nL D cI cA ad o A) (hr : meth.sig.returnType = some .char) {x : Int} (d : decode cc pc = .ok (.ireturn, 1)) (hn : narrow .char (.int (hg_I x)) = .int (hg_I x)) : hg_At p l e R s m args below meth c D cI cA ad o A (MQ below (hg_Qi D cI cA ad o A w x) args s 0 0 A) nL w lv pc [.int (hg_I x)] := by
  obtain ⟨hx, hb, hml, hown, hts, hlk, hA, hK, hE⟩ := B
  intro H locs ls g hl
  exact W.zret hx hb hr hn (fun t ht hW => ⟨⟨_, (), rfl, rfl, by rw [ht]; exact g.1, va_K.moved hW.alike hK, g.2.1⟩, g.2.2.F ht⟩) g.2.2.2.2 d
end HGS
theorem hg_lgs {x n : Int} {v : Value} (hv : v.category = 1) : (lg_sl [.int (hg_I x), .int (hg_I n), v]).length ≤ 3 := by
  cases v <;> first | exact Nat.le_of_ble_eq_true rfl | cases hv
section HGJ
variable {l : Launch} {D : va_G} {cI cA : ClassId} {ad : Nat → Nat} {w : hg_W}
set_option maxHeartbeats 4000000 in
theorem c_J0_coder_7d493 {i : Nat} (hi : i < 13) : hg_Mi l yJ0_coder_7d493 (Cond.code yJ0_coder_7d493 cJ0_coder_7d493 1 (some .byte) :: wsL_law) { frames := 0, cells := 0, slots := 0, locals := 0 } D cI cA ad 0 w [.ref (ad (1000 + i))] w 0 := by
  refine z_meti cJ0_coder_7d493 1 (some .byte) (by decide) (Nat.le_of_ble_eq_true rfl) ?_
  intro p e s m args below meth c A B hr
  refine z_scmp rfl B dJ0_coder_7d493_0 (wl_12 9 rfl) ?_
  refine z_if_eq (α := Unit) (X := none) (Y := some ()) (r := ()) (tgt := 13) B dJ0_coder_7d493_3 (by decide) (by decide) (fun h => by cases h) (fun _ => ?_)
  refine z_aload_n B 0 dJ0_coder_7d493_6 rfl rfl ?_
  refine z_scod rfl B hi dJ0_coder_7d493_7 (wl_12 10 rfl) ?_
  refine z_goto (tgt := 14) B dJ0_coder_7d493_10 (by decide) ?_
  exact z_byret B hr dJ0_coder_7d493_14 rfl
set_option maxHeartbeats 4000000 in
theorem c_J0_isLatin1_aae02 {i : Nat} (hi : i < 13) : hg_Mi l yJ0_isLatin1_aae02 (Cond.code yJ0_isLatin1_aae02 cJ0_isLatin1_aae02 1 (some .boolean) :: wsL_law) { frames := 0, cells := 0, slots := 0, locals := 0 } D cI cA ad 0 w [.ref (ad (1000 + i))] w 1 := by
  refine z_meti cJ0_isLatin1_aae02 1 (some .boolean) (by decide) (Nat.le_of_ble_eq_true rfl) ?_
  intro p e s m args below meth c A B hr
  refine z_scmp rfl B dJ0_isLatin1_aae02_0 (wl_12 9 rfl) ?_
  refine z_if_eq (α := Unit) (X := none) (Y := some ()) (r := ()) (tgt := 17) B dJ0_isLatin1_aae02_3 (by decide) (by decide) (fun h => by cases h) (fun _ => ?_)
  refine z_aload_n B 0 dJ0_isLatin1_aae02_6 rfl rfl ?_
  refine z_scod rfl B hi dJ0_isLatin1_aae02_7 (wl_12 10 rfl) ?_
  refine z_if_ne (α := Unit) (X := none) (Y := some ()) (r := ()) (tgt := 17) B dJ0_isLatin1_aae02_10 (by decide) (by decide) (fun h => by cases h) (fun _ => ?_)
  refine z_iconst B dJ0_isLatin1_aae02_13 ?_
  refine z_goto (tgt := 18) B dJ0_isLatin1_aae02_14 (by decide) ?_
  exact z_bret (r := 1) B hr dJ0_isLatin1_aae02_18 (if_pos (by decide))
set_option maxHeartbeats 4000000 in
theorem c_J0_length_8abf5 {i : Nat} (hi : i < 13) : hg_Mi l yJ0_length_8abf5 (Cond.code yJ0_length_8abf5 cJ0_length_8abf5 1 (some .int) :: wsL_law) { frames := 1, cells := 0, slots := 0, locals := 20 } D cI cA ad 0 w [.ref (ad (1000 + i))] w (hg_sle.getD i 0 : Nat) := by
  refine z_meti cJ0_length_8abf5 1 (some .int) (by decide) (Nat.le_of_ble_eq_true rfl) ?_
  intro p e s m args below meth c A B hr
  refine z_aload_n B 0 dJ0_length_8abf5_0 rfl rfl ?_
  refine z_sval rfl B hi dJ0_length_8abf5_1 (wl_12 4 rfl) ?_
  refine z_sbln rfl B hi dJ0_length_8abf5_4 ?_
  refine z_aload_n B 0 dJ0_length_8abf5_5 rfl rfl ?_
  refine z_calliR (As := []) (n := 0) rfl B hi dJ0_length_8abf5_6 (c_J0_coder_7d493 hi) (gl_V (wl_12 5 rfl) (wl_12 6 rfl) (wl_12 7 rfl) (wl_12 2 rfl) (wl_12 8 rfl)) rfl ⟨rfl, rfl⟩ (by decide +kernel) ⟨Nat.le_of_ble_eq_true rfl, Nat.le_of_ble_eq_true rfl⟩ rfl rfl (Nat.le_of_ble_eq_true rfl) ?_
  refine z_ishr B dJ0_length_8abf5_9 ?_
  have e1 : hg_shr (hg_sle.getD i 0 : Nat) 0 = ((hg_sle.getD i 0 : Nat) : Int) := by
    have := (by decide +kernel : ∀ i, i < 13 → hg_shr (hg_sle.getD i 0 : Nat) 0 = ((hg_sle.getD i 0 : Nat) : Int)) i hi
    exact this
  rw [e1]
  have hd0 := hg_sdat i hi
  exact z_iret B hr dJ0_length_8abf5_10 (by rw [wr_id (by omega) (by omega)])
set_option maxHeartbeats 4000000 in
theorem c_J3_checkIndex_8e157 {x n : Int} {v : Value} (hv : v.category = 1) (h1 : 0 ≤ wr x) (h2 : wr x < wr n) : hg_Mi l yJ3_checkIndex_8e157 (Cond.code yJ3_checkIndex_8e157 cJ3_checkIndex_8e157 3 (some .int) :: wsL_law) { frames := 0, cells := 0, slots := 0, locals := 0 } D cI cA ad 0 w [.int (hg_I x), .int (hg_I n), v] w (wr x) := by
  refine z_meti cJ3_checkIndex_8e157 3 (some .int) (by decide) (hg_lgs hv) ?_
  intro p e s m args below meth c A B hr
  have hlv : lv_args 0 [.int (hg_I x), .int (hg_I n), v] = [(0, .int (hg_I x)), (1, .int (hg_I n)), (2, v)] := rfl
  rw [hlv]
  refine z_iload_n B 0 dJ3_checkIndex_8e157_0 rfl rfl ?_
  refine z_if_lt (α := Unit) (X := none) (Y := some ()) (r := ()) (tgt := 9) B dJ3_checkIndex_8e157_1 (by decide) (if_neg (by omega)) (fun h => by cases h) (fun _ => ?_)
  refine z_iload_n B 0 dJ3_checkIndex_8e157_4 rfl rfl ?_
  refine z_iload_n B 1 dJ3_checkIndex_8e157_5 rfl rfl ?_
  refine z_icmp_lt (α := Unit) (X := some ()) (Y := none) (r := ()) (tgt := 16) B dJ3_checkIndex_8e157_6 (by decide) (if_pos h2) (fun _ => ?_) (fun h => by cases h)
  refine z_iload_n B 0 dJ3_checkIndex_8e157_16 rfl rfl ?_
  exact z_iret B hr dJ3_checkIndex_8e157_17 rfl
set_option maxHeartbeats 4000000 in
theorem c_J0_checkIndex_df160 {x n : Int} (h1 : 0 ≤ wr x) (h2 : wr x < wr n) : hg_Mv l yJ0_checkIndex_df160 (Cond.code yJ0_checkIndex_df160 cJ0_checkIndex_df160 2 none :: wsL_law) { frames := 1, cells := 0, slots := 0, locals := 22 } D cI cA ad 0 w [.int (hg_I x), .int (hg_I n)] w := by
  refine z_metv cJ0_checkIndex_df160 2 none (by decide) (Nat.le_of_ble_eq_true rfl) ?_
  intro p e s m args below meth c A B hr
  refine z_iload_n B 0 dJ0_checkIndex_df160_0 rfl rfl ?_
  refine z_iload_n B 1 dJ0_checkIndex_df160_1 rfl rfl ?_
  refine z_sfmt rfl B dJ0_checkIndex_df160_2 (wl_13 2 rfl) (fun v hv => ?_)
  refine z_calliS (As := [.int (hg_I x), .int (hg_I n), v]) (n := 3) B dJ0_checkIndex_df160_5 (c_J3_checkIndex_8e157 hv h1 h2) (gl_S (wl_13 3 rfl) (wl_13 4 rfl) (wl_13 5 rfl) (wl_13 6 rfl)) rfl ⟨rfl, rfl⟩ (by decide +kernel) ⟨Nat.le_of_ble_eq_true rfl, Nat.le_of_ble_eq_true rfl⟩ rfl rfl (Nat.le_of_ble_eq_true rfl) ?_
  refine z_pop B dJ0_checkIndex_df160_8 rfl ?_
  exact z_vret (r := 0) B hr dJ0_checkIndex_df160_9 rfl
set_option maxHeartbeats 4000000 in
theorem c_J1_charAt_3b067 {i : Nat} {x : Int} (hi : i < 13) (hx0 : 0 ≤ wr x ∧ wr x < (hg_sle.getD i 0 : Int)) : hg_Mi l yJ1_charAt_3b067 (Cond.code yJ1_charAt_3b067 cJ1_charAt_3b067 2 (some .char) :: wsL_law) { frames := 2, cells := 0, slots := 0, locals := 52 } D cI cA ad 0 w [.ref (ad (2000 + i)), .int (hg_I x)] w (((hg_sby.getD i []).getD (wr x).toNat 0).toInt) := by
  refine z_meti cJ1_charAt_3b067 2 (some .char) (by decide) (Nat.le_of_ble_eq_true rfl) ?_
  intro p e s m args below meth c A B hr
  have hd0 := hg_sdat i hi
  have hwn : wr (hg_sle.getD i 0 : Nat) = ((hg_sle.getD i 0 : Nat) : Int) := wr_id (by omega) (by omega)
  refine z_iload_n B 1 dJ1_charAt_3b067_0 rfl rfl ?_
  refine z_aload_n B 0 dJ1_charAt_3b067_1 rfl rfl ?_
  refine z_sbln rfl B hi dJ1_charAt_3b067_2 ?_
  refine z_callvS (As := [.int (hg_I x), .int (hg_I (hg_sle.getD i 0 : Nat))]) (n := 2) B dJ1_charAt_3b067_3 (c_J0_checkIndex_df160 hx0.1 (by rw [hwn]; exact hx0.2)) (gl_S (wl_12 23 rfl) (wl_13 0 rfl) (wl_12 2 rfl) (wl_13 1 rfl)) rfl ⟨rfl, rfl⟩ (by decide +kernel) ⟨Nat.le_of_ble_eq_true rfl, Nat.le_of_ble_eq_true rfl⟩ rfl rfl (Nat.le_of_ble_eq_true rfl) ?_
  refine z_aload_n B 0 dJ1_charAt_3b067_6 rfl rfl ?_
  refine z_iload_n B 1 dJ1_charAt_3b067_7 rfl rfl ?_
  refine z_sbld rfl B hi hx0 dJ1_charAt_3b067_8 ?_
  obtain ⟨e1, e2⟩ := hd0.2.2 (wr x).toNat (by omega)
  generalize (hg_sby.getD i []).getD (wr x).toNat 0 = bb at e1 e2 ⊢
  refine z_sipush (n := 255) B dJ1_charAt_3b067_9 (by decide) ?_
  have B0 := B
  obtain ⟨hx, hb, hml, hown, hts, hlk, hA, hK, hE⟩ := B
  intro H locs ls g hl
  refine lv_iand hx hb dJ1_charAt_3b067_12 ?_
  refine lv_i2c hx hb dJ1_charAt_3b067_13 (v := hg_I bb.toInt) (by rw [hg_I_toInt]; exact e1) ?_
  exact z_chret B0 hr dJ1_charAt_3b067_14 (by rw [hg_I_toInt]; exact e2) _ _ _ g hl
set_option maxHeartbeats 4000000 in
theorem c_J0_charAt_5068e {i : Nat} {x : Int} (hi : i < 13) (hx0 : 0 ≤ wr x ∧ wr x < (hg_sle.getD i 0 : Int)) : hg_Mi l yJ0_charAt_5068e (Cond.code yJ0_charAt_5068e cJ0_charAt_5068e 2 (some .char) :: wsL_law) { frames := 3, cells := 0, slots := 0, locals := 83 } D cI cA ad 0 w [.ref (ad (1000 + i)), .int (hg_I x)] w (((hg_sby.getD i []).getD (wr x).toNat 0).toInt) := by
  refine z_meti cJ0_charAt_5068e 2 (some .char) (by decide) (Nat.le_of_ble_eq_true rfl) ?_
  intro p e s m args below meth c A B hr
  have hd0 := hg_sdat i hi
  refine z_aload_n B 0 dJ0_charAt_5068e_0 rfl rfl ?_
  refine z_calliR (As := []) (n := 0) rfl B hi dJ0_charAt_5068e_1 (c_J0_isLatin1_aae02 hi) (gl_V (wl_12 15 rfl) (wl_12 16 rfl) (wl_12 17 rfl) (wl_12 2 rfl) (wl_12 18 rfl)) rfl ⟨rfl, rfl⟩ (by decide +kernel) ⟨Nat.le_of_ble_eq_true rfl, Nat.le_of_ble_eq_true rfl⟩ rfl rfl (Nat.le_of_ble_eq_true rfl) ?_
  refine z_if_eq (α := Unit) (X := none) (Y := some ()) (r := ()) (tgt := 16) B dJ0_charAt_5068e_4 (by decide) (by decide) (fun h => by cases h) (fun _ => ?_)
  refine z_aload_n B 0 dJ0_charAt_5068e_7 rfl rfl ?_
  refine z_sval rfl B hi dJ0_charAt_5068e_8 (wl_12 4 rfl) ?_
  refine z_iload_n B 1 dJ0_charAt_5068e_11 rfl rfl ?_
  refine z_calliS (As := [.ref (ad (2000 + i)), .int (hg_I x)]) (n := 2) B dJ0_charAt_5068e_12 (c_J1_charAt_3b067 hi hx0) (gl_S (wl_12 19 rfl) (wl_12 20 rfl) (wl_12 21 rfl) (wl_12 22 rfl)) rfl ⟨rfl, rfl⟩ (by decide +kernel) ⟨Nat.le_of_ble_eq_true rfl, Nat.le_of_ble_eq_true rfl⟩ rfl rfl (Nat.le_of_ble_eq_true rfl) ?_
  obtain ⟨e1, e2⟩ := hd0.2.2 (wr x).toNat (by omega)
  exact z_chret B hr dJ0_charAt_5068e_15 (by rw [hg_I_toInt]; exact e2)
end HGJ
section HGT
variable {p : Program} {l : Launch} {e : Env} {R : Room} {s : State} {m : MethodId} {args : Array Value} {below : List Frame} {meth : Method} {c : Code} {D : va_G} {cI cA : ClassId} {ad : Nat → Nat} {o : Nat} {A : Nat → Prop} {Q : State → Prop} {nL : Nat} {w : hg_W} {lv : List (Nat × Value)} {pc : Nat} {st : List Value} {cc : ByteArray} {own : String}
theorem z_slen (ho : o = 0) (B : hg_B p s m args meth c cc own wsL_law nL D cI cA ad o A) {idx : Nat} {i v : Int} (hR : 8 ≤ R.frames ∧ 260 ≤ R.locals) (hl0 : Cond.methodLink own idx yJ0_length_8abf5 ∈ wsL_law) (d : decode cc pc = .ok (.invokevirtual idx, 3)) (hcat : (st.map fun v => v.category).sum ≤ 8) (h : hg_sl i = some v) (k : hg_At p l e R s m args below meth c D cI cA ad o A Q nL w lv (pc + 3) (.int (hg_I v) :: st)) : hg_At p l e R s m args below meth c D cI cA ad o A Q nL w lv pc (.ref (ad (1000 + i.toNat)) :: st) := by
  subst ho
  unfold hg_sl at h
  by_cases q : 0 ≤ i ∧ i < 13
  · rw [if_pos q] at h
    have hv := Option.some.inj h
    subst hv
    have hi : i.toNat < 13 := by omega
    exact z_calliR (As := []) (n := 0) rfl B hi d (c_J0_length_8abf5 hi) (gl_V hl0 (wl_12 0 rfl) (wl_12 1 rfl) (wl_12 2 rfl) (wl_12 3 rfl)) rfl ⟨rfl, rfl⟩ (by decide +kernel) ⟨Nat.le_trans (Nat.le_of_ble_eq_true rfl) hR.1, Nat.le_trans (Nat.le_of_ble_eq_true rfl) hR.2⟩ rfl rfl hcat k
  · rw [if_neg q] at h
    cases h
theorem z_schar (ho : o = 0) (B : hg_B p s m args meth c cc own wsL_law nL D cI cA ad o A) {idx : Nat} {i k0 v : Int} (hR : 8 ≤ R.frames ∧ 260 ≤ R.locals) (hl0 : Cond.methodLink own idx yJ0_charAt_5068e ∈ wsL_law) (d : decode cc pc = .ok (.invokevirtual idx, 3)) (hcat : (st.map fun v => v.category).sum ≤ 8) (h : hg_sc i k0 = some v) (k : hg_At p l e R s m args below meth c D cI cA ad o A Q nL w lv (pc + 3) (.int (hg_I v) :: st)) : hg_At p l e R s m args below meth c D cI cA ad o A Q nL w lv pc (.int (hg_I k0) :: .ref (ad (1000 + i.toNat)) :: st) := by
  subst ho
  unfold hg_sc at h
  by_cases q : 0 ≤ i ∧ i < 13 ∧ 0 ≤ wr k0 ∧ wr k0 < (hg_sle.getD i.toNat 0 : Int)
  · rw [if_pos q] at h
    have hv := Option.some.inj h
    subst hv
    have hi : i.toNat < 13 := by omega
    exact z_calliR (As := [.int (hg_I k0)]) (n := 1) rfl B hi d (c_J0_charAt_5068e hi q.2.2) (gl_V hl0 (wl_12 12 rfl) (wl_12 13 rfl) (wl_12 2 rfl) (wl_12 14 rfl)) rfl ⟨rfl, rfl⟩ (by decide +kernel) ⟨Nat.le_trans (Nat.le_of_ble_eq_true rfl) hR.1, Nat.le_trans (Nat.le_of_ble_eq_true rfl) hR.2⟩ rfl rfl hcat k
  · rw [if_neg q] at h
    cases h
end HGT
