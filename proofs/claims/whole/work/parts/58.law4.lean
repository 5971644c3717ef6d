/-! ===== the claim ===== -/
set_option maxHeartbeats 4000000 in
theorem whole_start {p : Program} {e : Env} {s : State} {m : MethodId} {below : List Frame} {meth : Method} {c : Code} (l : Launch) (hflags : l.flags = flags0) {b L : Nat} {xs : Nat → Int32} (hL : L ≤ 3584) (C0 : lw_At p s m meth c b L xs) : W p l e room_1 s m #[Value.ref b] below meth c s.heap [] 0 0 (lw_Z below #[Value.ref b] s) (entryFrame m ([Value.ref b] : List Value).toArray 4) := by
  obtain ⟨hx, hb, hr, hml, hown, hts, hX, hbl, hlocks, hgv⟩ := id C0
  have htl : ∀ w ∈ wsL_law, w.before #[Value.ref b] s = true := fun w hw => hts w (wsL_law_in w hw)
  have hA : ∀ q : Nat, s.heap.size ≤ q → (fun q : Nat => s.heap.size ≤ q) q := fun _ h => h
  have hbA : ¬ (fun q : Nat => s.heap.size ≤ q) b := Nat.not_le.mpr hbl
  obtain ⟨c0, iS0, hKn0⟩ := u_known (C := RX0) (T := TX0) (N := 14) (n := 14) hts inX0 (hts (.instantiable RX0 14) (by decide +kernel))
  obtain ⟨c1, iS1, hKn1⟩ := u_known (C := RX1) (T := TX1) (N := 3) (n := 3) hts inX1 (hts (.instantiable RX1 3) (by decide +kernel))
  obtain ⟨c2, iS2, hKn2⟩ := u_known (C := RX2) (T := TX2) (N := 9) (n := 9) hts inX2 (hts (.instantiable RX2 9) (by decide +kernel))
  obtain ⟨c3, iS3, hKn3⟩ := u_known (C := RX3) (T := TX3) (N := 4) (n := 4) hts inX3 (hts (.instantiable RX3 4) (by decide +kernel))
  obtain ⟨c4, iS4, hKn4⟩ := u_known (C := RX4) (T := TX4) (N := 9) (n := 9) hts inX4 (hts (.instantiable RX4 9) (by decide +kernel))
  obtain ⟨c5, iS5, hKn5⟩ := u_known (C := RX5) (T := TX5) (N := 37) (n := 37) hts inX5 (hts (.instantiable RX5 37) (by decide +kernel))
  obtain ⟨D, hKc⟩ : ∃ D : va_G, ∀ (k : Nat) (q : vw_C), vwCl[k]? = some q → u_Kn s q.1 q.2.1 q.2.2 (D.1 k) (D.2 k) := by
    refine ⟨(fun k => ([c0, c1, c2, c3, c4, c5] : List ClassId).getD k c0, fun k => ([iS0, iS1, iS2, iS3, iS4, iS5] : List (Nat → Nat)).getD k iS0), ?_⟩
    intro k q hq
    match k, hq with
    | 0, hq => cases hq; exact hKn0
    | 1, hq => cases hq; exact hKn1
    | 2, hq => cases hq; exact hKn2
    | 3, hq => cases hq; exact hKn3
    | 4, hq => cases hq; exact hKn4
    | 5, hq => cases hq; exact hKn5
    | k + 6, hq => simp [vwCl] at hq
  obtain ⟨cI, kI, compI, f1, f2, f3⟩ := Cond.arrayClass_spec (hts (.arrayClass .int) (by decide +kernel))
  have hAOw : (Cond.arrayOver (.array .int)).before #[Value.ref b] s = true := hts (.arrayOver (.array .int)) (by decide +kernel)
  have hAO : hg_AO .int s := hg_AO.of hAOw
  obtain ⟨comp, cA, kA, -, -, g3, g4, g5⟩ := arrayOverA_spec hAOw
  have hK : va_K D vwCl (hg_tys cI cA) s := by
    refine ⟨hKc, fun k q hk => ?_⟩
    match k, hk with
    | 0, hk => cases hk; exact ⟨fun n z => ⟨(fun q hq => by cases hq), kI, f2, compI, f3⟩, f1⟩
    | 1, hk => cases hk; exact ⟨fun n z => ⟨(fun q hq => by cases hq), kA, g3, comp, g4⟩, g5⟩
    | k + 2, hk => simp [hg_tys] at hk
  obtain ⟨adK, adV, hex⟩ := lw_exs hts hgv
  have B : hg_B p s m #[.ref b] meth c code RL wsL_law 4 D cI cA (fun _ => 0) 1 (fun q : Nat => s.heap.size ≤ q) := ⟨hx, hb, hml, hown, htl, hlocks, hA, hK, fun h => absurd h (by decide)⟩
  have hl := lv_entry ([.ref b]) (n := 4) (Nat.le_of_ble_eq_true rfl)
  rw [lg_entry_eq]
  generalize (lg_sl ([.ref b]) ++ List.replicate (4 - (lg_sl ([.ref b])).length) Slot.unset).toArray = ls0 at hl ⊢
  obtain ⟨v1, r1, hv1, hchk⟩ := hn_ev
  suffices hn_At p l e room_1 s m #[.ref b] below meth c D (fun q : Nat => s.heap.size ≤ q) (lw_Z below #[Value.ref b] s) 4 [] 0 0 [(0, .ref b)] 0 [] from this s.heap [] ls0 ⟨fun k q h => by simp at h, ⟨fun i j p q h => by simp at h, fun k q h => by simp at h⟩, va_S.rf⟩ hl
  refine hn_new B 4 [.null, .null, .null, .null, .null, .int 0, .null, .null, .null] (C := RX4) (T := TX4) (N := 9) rfl tyX4 tyX4_ok hn_dfX4 inlX4 (wl_1 0 rfl) (wl_1 1 rfl) (wl_1 2 rfl) (Nat.le_of_ble_eq_true rfl) (Nat.le_of_ble_eq_true rfl) dL_law_0 (fun x1 => ?_)
  refine hn_dup B dL_law_3 rfl ?_
  refine hn_init B hAO (n := 0) (As := []) [hn_o x1 4 [.null, .null, .null, .null, .null, .int 0, .null, .null, .null]] ([]) [0] [] dL_law_4 (c_X4_init l D cI cA x1) (gl_0 (wl_1 8 rfl)) (wl_1 6 rfl) (wl_1 7 rfl) (wl_1 2 rfl) rfl (by decide +kernel) rfl rfl (by decide) (by decide) (by decide) ⟨Nat.le_of_ble_eq_true rfl, Nat.le_of_ble_eq_true rfl⟩ ⟨Nat.le_of_ble_eq_true rfl, Nat.le_of_ble_eq_true rfl⟩ rfl rfl (Nat.le_of_ble_eq_true rfl) (fun w1 hw1 => ?_)
  obtain ⟨q1, q3, q5, q7, q9, q11, q13, q14, a2_1, a2_2, a2_3, b4, a6_1, a6_2, a6_3, a6_4, a6_5, a6_6, a6_7, a6_8, a8_1, a8_2, a8_3, a8_4, a8_5, a8_6, a8_7, a8_8, a10_1, a10_2, a10_3, a10_4, a10_5, a10_6, a10_7, a10_8, a12_1, a12_2, a12_3, r2, t2, r12, f2, g2, f6, f8, f10, f12, hh, rfl⟩ := hw1
  obtain ⟨ad1, had1⟩ : ∃ ad1 : Nat → Nat, ad1 = fun k => if k < 1000 then ([x1, q1, a2_1, (r2 0), (r2 1), (r2 2), (r2 3), (r2 4), (r2 5), a2_2, (t2 0), (t2 1), (t2 2), (t2 3), (t2 4), (t2 5), a2_3, q3, b4, q5, a6_1, a6_2, a6_3, a6_4, a6_5, a6_6, a6_7, a6_8, q7, a8_1, a8_2, a8_3, a8_4, a8_5, a8_6, a8_7, a8_8, q9, a10_1, a10_2, a10_3, a10_4, a10_5, a10_6, a10_7, a10_8, q11, a12_1, a12_2, a12_3, (r12 0), (r12 1), (r12 2), (r12 3), q13, q14] : List Nat).getD k 0 else if k < 2000 then adK (k - 1000) else adV (k - 2000) := ⟨_, rfl⟩
  have hcv := lw_cells (cI := cI) (cA := cA) hh had1
  have hE : hg_ex ad1 (fun q : Nat => s.heap.size ≤ q) s s.heap := hex ad1 (fun i hi => ⟨by rw [had1]; show (if 1000 + i < 1000 then _ else if 1000 + i < 2000 then adK (1000 + i - 1000) else _) = _; rw [if_neg (by omega), if_pos (by omega), Nat.add_sub_cancel_left], by rw [had1]; show (if 2000 + i < 1000 then _ else if 2000 + i < 2000 then _ else adV (2000 + i - 2000)) = _; rw [if_neg (by omega), if_neg (by omega), Nat.add_sub_cancel_left]⟩)
  have ha1 : ad1 0 = x1 := by rw [had1]; rfl
  clear had1 hh
  refine hn_conv hcv ?_
  rw [List.append_nil, ← ha1]
  clear hcv
  refine hn_astore_n B [(1, .ref (ad1 0)), (0, .ref b)] dL_law_7 rfl (by decide) rfl ?_
  refine hn_new B 5 [.int 0, .null, .null, .null, .null, .int 0, .int 0, .null, .int 0, .null, .null, .int 0, .int 0, .int 0, .null, .null, .null, .null, .null, .null, .int 0, .int 0, .int 0, .int 0, .null, .null, .int 0, .int 0, .int 0, .null, .null, .null, .null, .int 0, .null, .null, .int 0] (C := RX5) (T := TX5) (N := 37) rfl tyX5 tyX5_ok hn_dfX5 inlX5 (wl_1 3 rfl) (wl_1 4 rfl) (wl_1 5 rfl) (Nat.le_of_ble_eq_true rfl) (Nat.le_of_ble_eq_true rfl) dL_law_8 (fun x2 => ?_)
  refine hn_dup B dL_law_11 rfl ?_
  refine hn_init B hAO (n := 0) (As := []) [hn_o x2 5 [.int 0, .null, .null, .null, .null, .int 0, .int 0, .null, .int 0, .null, .null, .int 0, .int 0, .int 0, .null, .null, .null, .null, .null, .null, .int 0, .int 0, .int 0, .int 0, .null, .null, .int 0, .int 0, .int 0, .null, .null, .null, .null, .int 0, .null, .null, .int 0]] (hg_CW cI cA ad1 0 hn_w0) [56] (List.range 56) dL_law_12 (c_X5_init l D cI cA x2 hv1) (gl_0 (wl_4 0 rfl)) (wl_3 22 rfl) (wl_3 23 rfl) (wl_1 5 rfl) rfl (by decide +kernel) (by show [(hg_CW cI cA ad1 0 hn_w0 ++ [_])[56]?] = _; rw [List.getElem?_append_right (by rw [hn_CWl]; exact Nat.le_refl _), hn_CWl]; rfl) (hn_mapL hn_CWl) (by decide) (by decide) (by decide) ⟨Nat.le_of_ble_eq_true rfl, Nat.le_of_ble_eq_true rfl⟩ ⟨Nat.le_of_ble_eq_true rfl, Nat.le_of_ble_eq_true rfl⟩ rfl rfl (Nat.le_of_ble_eq_true rfl) (fun w1 hw1 => ?_)
  obtain ⟨ad2, ha2, rfl⟩ := hw1
  rw [← ha2]
  refine hn_astore_n B [(2, .ref (ad2 0)), (1, .ref (ad1 0)), (0, .ref b)] dL_law_15 rfl (by decide) rfl ?_
  refine hn_iconst B dL_law_16 ?_
  refine hn_istore_n B [(3, .int (hg_I 0)), (2, .ref (ad2 0)), (1, .ref (ad1 0)), (0, .ref b)] dL_law_17 rfl (by decide) rfl ?_
  refine hn_wide (kc := 100) (ks := 20000) ⟨Nat.le_of_ble_eq_true rfl, Nat.le_of_ble_eq_true rfl⟩ ?_
  have B1 : hg_B p s m #[.ref b] meth c code RL wsL_law 4 D cI cA ad1 0 (fun q : Nat => s.heap.size ≤ q) := ⟨hx, hb, hml, hown, htl, hlocks, hA, hK, fun _ => hE⟩
  refine lw_loop (i := 0) (w := hn_w0) (v := v1) B1 hE hX hbl hbA hL (fun W1 lv => ?_) (L + 1) 0 hn_w0 v1 (by omega) (by omega) (hn_start hchk)
  intro H locs ls g hl
  refine lv_iconst (v := 1) hx hb dL_law_1430 (by decide) ?_
  refine va_forget (fun q hq => g.2.2.2.2 q hq) ?_
  refine W.widen (k := 600000) (n := 7302250) (Nat.le_of_ble_eq_true rfl) (Nat.le_of_ble_eq_true rfl) ?_
  exact lw_ret hx hb hr hlocks dL_law_1431
-- ===== YOUR PART ENDS =====
set_option maxHeartbeats 4000000 in
theorem lw_walk (l : Launch) (hflags : l.flags = flags0) (b : Addr) (xs : List Int32) : MetFree l x (headSpec (Jvm.Cond.code x code maxLocals ret :: tables_1) room_1) (lw_P b xs) (fun _ _ _ _ _ => True) lw_Q := by
  refine MetFree.of_bodyS (code := code) (maxLocals := maxLocals) (ret := ret) (by decide) ?_ ?_
  · intro args s m h hn
    obtain ⟨meth, c, h1, h2, h3, h4, h5, h6, -, -⟩ := Cond.code_spec hn (atoms_spec (ws := Jvm.Cond.code x code maxLocals ret :: tables_1) h _ List.mem_cons_self)
    exact ⟨meth, c, h1, h2, h3, h4, h5, h6⟩
  · intro p e s m args below meth c s₁ B hml0 hP _
    obtain ⟨rfl, hx, hbd, hgv⟩ := hP
    obtain ⟨scr, harrAt, hlist, hof, hsmall⟩ := hx
    obtain ⟨hcb, hkn, -, -⟩ := State.arrayAt?_spec harrAt
    have hown : s.vm.findClass R_law = some m.cls := findClass_of_methodNamed B.named
    have hts0 : ∀ c ∈ (Jvm.Cond.code x code maxLocals ret :: tables_1), c.before #[Value.ref b] s = true := atoms_spec (ws := Jvm.Cond.code x code maxLocals ret :: tables_1) B.pre
    have hts : ∀ w ∈ lw_tbl, w.before #[Value.ref b] s = true := k2_hts_sels lw_privs (fun w hw => hts0 w (List.mem_cons_of_mem _ hw)) lw_privs_ok
    have hml : c.maxLocals = 4 := B.maxLocals_eq (hts0 _ List.mem_cons_self)
    have X₀ : Stand p l e room_1 s m #[Value.ref b] below meth c s₁ [] 0 0 := Stand.of_body B
    have hh0 : s₁.heap = s.heap := by rw [B.state]; rfl
    have hsz : scr.slots.size = xs.length := by rw [← Array.length_toList, hlist, List.length_map]
    have hval : ∀ j : Nat, j < xs.length → scr.slots[j]? = some (.int (xs.getD j 0)) := fun j hj => by
      rw [← Array.getElem?_toList, hlist]
      simp [hj]
    have hbl : b < s.heap.size := (Array.getElem?_eq_some_iff.mp hcb).1
    have hX : va_X b xs.length (fun j => xs.getD j 0) s s.heap := ⟨scr, hcb, hof, hkn, hsz, hval⟩
    have K : W p l e room_1 s m #[Value.ref b] below meth c s₁.heap [] 0 0 (lw_Z below #[Value.ref b] s) (entryFrame m ([Value.ref b] : List Value).toArray 4) := by
      rw [hh0]
      exact whole_start l hflags hbd ⟨B.exec, B.bytes, B.returns, hml, hown, hts, hX, hbl, B.notSynchronized, hgv⟩
    obtain ⟨t, a1, o, b1, b2, b3⟩ := K s₁ rfl X₀
    exact ⟨t, o, a1, b1, b2, b3⟩
theorem lw_pre_spec {args : Array Value} {s : State} (h : (Jvm.Cond.and given_1 narrow_1).before args s = true) (hr : rest_1_c.before args s = true) : ∃ (b : Addr) (xs : List Int32), lw_P b xs args s := by
  have hs := flat_of_before _ h
  have hq := flat_of_before _ hr
  have hc : (Cond.count 1).before args s = true := hs _ (by decide +kernel)
  have harr : (Cond.arrayOf (.arg 0) .int).before args s = true := hs _ (by decide +kernel)
  have hle : (Cond.le (.length (.arg 0)) (.int 3584)).before args s = true := hs _ (by decide +kernel)
  have hlen : (Cond.isInt (.length (.arg 0))).before args s = true := hq _ (by decide +kernel)
  have hall : (Cond.all (.arg 0) (.isInt (.elem (.arg 0) (.index 0)))).before args s = true := hq _ (by decide +kernel)
  obtain ⟨b, xs, hb, hx⟩ := State.ints_of_pre rfl harr hlen hall
  have hsm : xs.length < 2 ^ 31 := hx.choose_spec.2.2.2
  have hev : (Term.length (.arg 0)).eval args s none [] s = some (.int xs.length.toInt32) := hx.length_eval hb
  have hv := Cond.le_ints hev (show (Term.int 3584).eval args s none [] s = some (.int 3584) from rfl)
  have hd : xs.length.toInt32 ≤ 3584 := by
    simpa [Cond.before, Cond.holds, hv] using hle
  have hN : xs.length ≤ 3584 := (Int32.ofNat_le_ofNat hsm (by decide)).mp (show Int32.ofNat xs.length ≤ Int32.ofNat 3584 from hd)
  exact ⟨b, xs, Cond.one_arg hc (show args[0]? = some (.ref b) from hb), hx, hN, h⟩
theorem lw_comes (l : Launch) (hflags : l.flags = flags0) : Comes l x (Jvm.Cond.code x code maxLocals ret :: tables_1) room_1 (fun tb e args s => Calls_1 tb e args s ∧ rest_1 tb e args s ∧ Pre_1 tb e args s)
    (fun _ _ args s o t => lw_Q args s o t) := by
  intro p e ha hc hk s m args below hf hfit hheap happ hpre
  obtain ⟨b, xs, hP⟩ := lw_pre_spec hpre.2.2 hpre.2.1
  obtain ⟨k, o, h1, h2, h3, hQ⟩ := lw_walk l hflags b xs p e ha hc hk s m args below hf ((Spec.applies_iff_loose hf).mp happ).1 hP trivial
  exact ⟨k, o, h1, h2, h3, hQ⟩
theorem lw_frame {s t : State} {o : Outcome} {args : Array Value} (h : Framed s o t [] 600000 7302250) :
    Framed s o t (fieldLocs frame_1_writes args s ++ arrayLocs frame_1_arrays args s ++ staticLocs frame_1_statics s) 600000 7302250 := h
theorem lw_limb (L : Cond) (hL : ∀ (args : Array Value) (s t : State), L.after args s (.returned (some (.int 1))) t = true) :
    ArmFor flags0 classFile x code maxLocals ret World_1 tables_1 room_1 Calls_1 rest_1 Pre_1
      (fun tb e a s o t => postC L tb e a s o t ∧ Framed s o t (fieldLocs frame_1_writes a s ++ arrayLocs frame_1_arrays a s ++ staticLocs frame_1_statics s) 600000 7302250) := by
  intro l hflags _ _ p e ha hc hk s m args below hf hfit hheap happ hpre
  obtain ⟨k, o, h1, h2, h3, rfl, hF⟩ := lw_comes l hflags p e ha hc hk s m args below hf hfit hheap happ hpre
  exact ⟨k, _, h1, h2, h3, hL args s _, lw_frame hF⟩
theorem i_vc : Claimed_1_1 ∧ Claimed_1_2 := ⟨lw_limb limb_1_1 (fun args s t => by simp [limb_1_1, Cond.after, Cond.holds, Cond.value]), lw_limb limb_1_2 (fun args s t => Cond.after_iff.mpr (by
  first | (rw [show limb_1_2 = Cond.eq .result (.int 1) from rfl, Cond.eq_ints (x := 1) (y := 1) rfl rfl]; simp; done) | (simp [limb_1_2, Cond.value, Term.eval]; done)))⟩
