/-! THE CLAIM OUT OF ONE WALK OF THE LAW'S BODY. Your part is whole_start (and what it stands on); all else here is the same for every law, but numbers. -/
def R_law : String := "HatGoesRoundLaw"
def lw_P (b : Addr) (xs : List Int32) (args : Array Value) (s : State) : Prop := args = #[.ref b] ∧ s.IntsAt b xs ∧ xs.length ≤ 3584 ∧ (Jvm.Cond.and given_1 narrow_1).before args s = true
def lw_Q (_ : Array Value) (s : State) (o : Outcome) (t : State) : Prop := o = .returned (some (.int 1)) ∧ Framed s o t [] 600000 7302250
def lw_Z (below : List Frame) (a : Array Value) (s : State) : State → Prop := fun t => ∃ o, t.status = .running ∧ Ended t below o ∧ lw_Q a s o t
/-- the law's own end, with 1 on the stack, nothing written that was there before, its room as the claim has it -/
theorem lw_ret {p : Program} {l : Launch} {e : Env} {s : State} {m : MethodId} {below : List Frame} {meth : Method} {c : Code} {b : Nat} (hx : p.tables.exec = Jvm.exec) (hb : c.code = code) (hr : meth.sig.returnType = ret) (hlocks : meth.locks = false) {pc : Nat} {H : Heap} {ls : Array Slot} (hdg : decode code pc = .ok (.ireturn, 1)) : W p l e room_1 s m #[Value.ref b] below meth c H [] 600000 7302250 (lw_Z below #[Value.ref b] s) (F0 m pc ls [.int 1]) := by
  intro T hT X
  obtain ⟨fs, hret, hrun, hended, hW, hframe⟩ := X.leave (v := some (.int 1)) (hlocks := hlocks) (fun h => by rw [hr] at h; cases h)
  have hmeth' : T.vm.method? m = some meth := X.method'
  refine ⟨T.setFrames fs, ?_, .returned (some (.int 1)), hrun, hended, rfl, ⟨_, rfl⟩, hW, hframe⟩
  jvm_step X.here [X.here.top, hx, hb, hdg, hmeth', hr, ret, narrow_b1]
  (try refine ⟨rfl, ?_⟩); (try refine ⟨rfl, ?_⟩)
  first | (intro acts; rw [hret _ acts rfl rfl rfl]) | rw [hret _ _ rfl rfl rfl]
  exact Steps.refl _
/-- what holds at the law's entry: the machine, the code, the tables' words (any of lw_tbl by 'hts w (by decide +kernel)'), the script of L ints xs at the cell b, what the Statement gives of the start (any of its parts by flat_of_before) -/
def lw_At (p : Program) (s : State) (m : MethodId) (meth : Method) (c : Code) (b L : Nat) (xs : Nat → Int32) : Prop :=
  p.tables.exec = Jvm.exec ∧ c.code = code ∧ meth.sig.returnType = ret ∧ c.maxLocals = 4 ∧ s.vm.findClass R_law = some m.cls ∧ (∀ w ∈ lw_tbl, w.before #[Value.ref b] s = true) ∧ va_X b L xs s s.heap ∧ b < s.heap.size ∧ meth.locks = false ∧ (Jvm.Cond.and given_1 narrow_1).before #[Value.ref b] s = true
/-! ===== rows for the law ===== -/
section HNL
variable {p : Program} {l : Launch} {e : Env} {R : Room} {s : State} {m : MethodId} {args : Array Value} {below : List Frame} {meth : Method} {c : Code} {D : va_G} {cI cA : ClassId} {ad : Nat → Nat} {o : Nat} {A : Nat → Prop} {Q : State → Prop} {nL : Nat} {W1 W2 : va_W} {nc ns : Nat} {lv : List (Nat × Value)} {pc : Nat} {st : List Value} {cc : ByteArray} {own : String} {ws : List Cond}
theorem hn_isub (B : hg_B p s m args meth c cc own ws nL D cI cA ad o A) {x y : Int} (d : decode cc pc = .ok (.isub, 1)) (k : hn_At p l e R s m args below meth c D A Q nL W1 nc ns lv (pc + 1) (.int (hg_I (x - y)) :: st)) : hn_At p l e R s m args below meth c D A Q nL W1 nc ns lv pc (.int (hg_I y) :: .int (hg_I x) :: st) := by
  obtain ⟨hx, hb, hml, hown, hts, hlk, hA, hK, hE⟩ := B
  intro H locs ls g hl
  exact lv_isub hx hb d (by rw [← hg_I_sub]; exact k _ _ _ g hl)
theorem hn_iand (B : hg_B p s m args meth c cc own ws nL D cI cA ad o A) {x y : Int} (d : decode cc pc = .ok (.iand, 1)) (k : hn_At p l e R s m args below meth c D A Q nL W1 nc ns lv (pc + 1) (.int (hg_I (hg_and x y)) :: st)) : hn_At p l e R s m args below meth c D A Q nL W1 nc ns lv pc (.int (hg_I y) :: .int (hg_I x) :: st) := by
  obtain ⟨hx, hb, hml, hown, hts, hlk, hA, hK, hE⟩ := B
  intro H locs ls g hl
  exact lv_iand hx hb d (by have h := k _ _ _ g hl; unfold hg_and at h; rw [hg_I_toInt] at h; exact h)
theorem hn_lcmp (B : hg_B p s m args meth c cc own ws nL D cI cA ad o A) {x y : Int} (d : decode cc pc = .ok (.lcmp, 1)) (k : hn_At p l e R s m args below meth c D A Q nL W1 nc ns lv (pc + 1) (.int (hg_I (hg_lcmp x y)) :: st)) : hn_At p l e R s m args below meth c D A Q nL W1 nc ns lv pc (.long (hg_J y) :: .long (hg_J x) :: st) := by
  obtain ⟨hx, hb, hml, hown, hts, hlk, hA, hK, hE⟩ := B
  intro H locs ls g hl
  refine W.lcmp hx hb d ?_
  have e1 : lg_cmp (hg_J x) (hg_J y) = hg_I (hg_lcmp x y) := by
    unfold lg_cmp hg_lcmp
    simp only [gt_iff_lt, Int64.lt_iff_toInt_lt, hg_J_inj]
    show (if wl y < wl x then (1 : Int32) else if wl x = wl y then 0 else -1) = _
    split
    · rfl
    · split <;> rfl
  rw [e1]
  exact k _ _ _ g hl
theorem hn_if_eq {α : Type} {X Y : Option α} {r : α} (B : hg_B p s m args meth c cc own ws nL D cI cA ad o A) {x : Int} {off : Int} {tgt : Nat} (d : decode cc pc = .ok (.ifCond .eq off, 3)) (ht : (pc : Int) + off = (tgt : Int)) (h : (if wr x = 0 then X else Y) = some r) (kt : X = some r → hn_At p l e R s m args below meth c D A Q nL W1 nc ns lv tgt st) (kf : Y = some r → hn_At p l e R s m args below meth c D A Q nL W1 nc ns lv (pc + 3) st) : hn_At p l e R s m args below meth c D A Q nL W1 nc ns lv pc (.int (hg_I x) :: st) := by
  obtain ⟨hx, hb, hml, hown, hts, hlk, hA, hK, hE⟩ := B
  intro H locs ls g hl
  refine lv_if_eq hx hb d ht (fun q => ?_) (fun q => ?_)
  · have q2 : wr x = 0 := hg_I_0.mp q
    rw [if_pos q2] at h
    exact kt h _ _ _ g hl
  · have q2 : ¬ (wr x = 0) := fun z => q (hg_I_0.mpr z)
    rw [if_neg q2] at h
    exact kf h _ _ _ g hl
theorem hn_icmp_eq {α : Type} {X Y : Option α} {r : α} (B : hg_B p s m args meth c cc own ws nL D cI cA ad o A) {x y : Int} {off : Int} {tgt : Nat} (d : decode cc pc = .ok (.if_icmp .eq off, 3)) (ht : (pc : Int) + off = (tgt : Int)) (h : (if wr x = wr y then X else Y) = some r) (kt : X = some r → hn_At p l e R s m args below meth c D A Q nL W1 nc ns lv tgt st) (kf : Y = some r → hn_At p l e R s m args below meth c D A Q nL W1 nc ns lv (pc + 3) st) : hn_At p l e R s m args below meth c D A Q nL W1 nc ns lv pc (.int (hg_I y) :: .int (hg_I x) :: st) := by
  obtain ⟨hx, hb, hml, hown, hts, hlk, hA, hK, hE⟩ := B
  intro H locs ls g hl
  refine lv_icmp_eq hx hb d ht (fun q => ?_) (fun q => ?_)
  · have q2 : wr x = wr y := hg_I_inj.mp q
    rw [if_pos q2] at h
    exact kt h _ _ _ g hl
  · have q2 : ¬ (wr x = wr y) := fun z => q (hg_I_inj.mpr z)
    rw [if_neg q2] at h
    exact kf h _ _ _ g hl
theorem hn_icmp_gt {α : Type} {X Y : Option α} {r : α} (B : hg_B p s m args meth c cc own ws nL D cI cA ad o A) {x y : Int} {off : Int} {tgt : Nat} (d : decode cc pc = .ok (.if_icmp .gt off, 3)) (ht : (pc : Int) + off = (tgt : Int)) (h : (if wr y < wr x then X else Y) = some r) (kt : X = some r → hn_At p l e R s m args below meth c D A Q nL W1 nc ns lv tgt st) (kf : Y = some r → hn_At p l e R s m args below meth c D A Q nL W1 nc ns lv (pc + 3) st) : hn_At p l e R s m args below meth c D A Q nL W1 nc ns lv pc (.int (hg_I y) :: .int (hg_I x) :: st) := by
  obtain ⟨hx, hb, hml, hown, hts, hlk, hA, hK, hE⟩ := B
  intro H locs ls g hl
  refine lv_icmp_gt hx hb d ht (fun q => ?_) (fun q => ?_)
  · have q2 : wr y < wr x := hg_I_lt.mp q
    rw [if_pos q2] at h
    exact kt h _ _ _ g hl
  · have q2 : ¬ (wr y < wr x) := fun z => q (hg_I_lt.mpr z)
    rw [if_neg q2] at h
    exact kf h _ _ _ g hl
theorem hn_tabIn (B : hg_B p s m args meth c cc own ws nL D cI cA ad o A) {dflt lo hi : Int} {offs : Array Int} {len : Nat} {x v : Int} {off : Int} {tgt : Nat} (d : decode cc pc = .ok (.tableswitch dflt lo hi offs, len)) (q : wr x = v) (h1 : lo ≤ v ∧ v ≤ hi) (ho : offs[(v - lo).toNat]? = some off) (ht : (pc : Int) + off = (tgt : Int)) (k : hn_At p l e R s m args below meth c D A Q nL W1 nc ns lv tgt st) : hn_At p l e R s m args below meth c D A Q nL W1 nc ns lv pc (.int (hg_I x) :: st) := by
  obtain ⟨hx, hb, hml, hown, hts, hlk, hA, hK, hE⟩ := B
  intro H locs ls g hl
  subst q
  exact lv_tableIn (off := off) hx hb d (Int.not_lt.mpr h1.1) (Int.not_lt.mpr h1.2) ho ht (k _ _ _ g hl)
theorem hn_tabOut (B : hg_B p s m args meth c cc own ws nL D cI cA ad o A) {dflt lo hi : Int} {offs : Array Int} {len : Nat} {x : Int} {tgt : Nat} (d : decode cc pc = .ok (.tableswitch dflt lo hi offs, len)) (q : wr x < lo ∨ hi < wr x) (ht : (pc : Int) + dflt = (tgt : Int)) (k : hn_At p l e R s m args below meth c D A Q nL W1 nc ns lv tgt st) : hn_At p l e R s m args below meth c D A Q nL W1 nc ns lv pc (.int (hg_I x) :: st) := by
  obtain ⟨hx, hb, hml, hown, hts, hlk, hA, hK, hE⟩ := B
  intro H locs ls g hl
  exact lv_tableOut hx hb d q ht (k _ _ _ g hl)
theorem hn_slen (B : hg_B p s m args meth c cc own ws nL D cI cA ad o A) {b L : Nat} {xs : Nat → Int32} (hX : va_X b L xs s s.heap) (hbl : b < s.heap.size) (hbA : ¬ A b) (d : decode cc pc = .ok (.arraylength, 1)) (k : hn_At p l e R s m args below meth c D A Q nL W1 nc ns lv (pc + 1) (.int (hg_I (L : Int)) :: st)) : hn_At p l e R s m args below meth c D A Q nL W1 nc ns lv pc (.ref b :: st) := by
  obtain ⟨hx, hb, hml, hown, hts, hlk, hA, hK, hE⟩ := B
  intro H locs ls g hl
  refine va_slen hx hb hX hbl hbA g.2.2 d ?_
  rw [show Int32.ofNat L = hg_I (L : Int) from Int32.ofInt_eq_ofNat.symm]
  exact k _ _ _ g hl
theorem hn_sld (B : hg_B p s m args meth c cc own ws nL D cI cA ad o A) {b L : Nat} {xs : Nat → Int32} (hX : va_X b L xs s s.heap) (hbl : b < s.heap.size) (hbA : ¬ A b) {i : Int} (hin : 0 ≤ wr i ∧ wr i < (L : Int)) (d : decode cc pc = .ok (.iaload, 1)) (k : hn_At p l e R s m args below meth c D A Q nL W1 nc ns lv (pc + 1) (.int (hg_I (xs (wr i).toNat).toInt) :: st)) : hn_At p l e R s m args below meth c D A Q nL W1 nc ns lv pc (.int (hg_I i) :: .ref b :: st) := by
  obtain ⟨hx, hb, hml, hown, hts, hlk, hA, hK, hE⟩ := B
  intro H locs ls g hl
  refine va_sld hx hb hX hbl hbA g.2.2 (hg_in hin) d ?_
  have e1 : xs (hg_I i).toNatClampNeg = hg_I (xs (wr i).toNat).toInt := (hg_I_toInt _).symm
  rw [e1]
  exact k _ _ _ g hl
theorem hn_astore_n (B : hg_B p s m args meth c cc own ws nL D cI cA ad o A) {k0 : Fin 4} {i : Nat} {x : Nat} (lv' : List (Nat × Value)) (d : decode cc pc = .ok (.astore_n k0, 1)) (hi : (k0 : Nat) = i) (hn : i < nL) (hl' : (i, Value.ref x) :: lv.filter (fun q => !(q.1 == i) && !(q.1 + 1 == i && q.2.category == 2)) = lv') (k : hn_At p l e R s m args below meth c D A Q nL W1 nc ns lv' (pc + 1) st) : hn_At p l e R s m args below meth c D A Q nL W1 nc ns lv pc (.ref x :: st) := by
  obtain ⟨hx, hb, hml, hown, hts, hlk, hA, hK, hE⟩ := B
  intro H locs ls g hl
  exact lv_astore_n (lv' := lv') hx hb d hi hl hn hl' (fun ls hl => k _ _ _ g hl)
theorem hn_lv (is : List Nat) {lv' : List (Nat × Value)} (h : lv_pick lv is = lv') (k : hn_At p l e R s m args below meth c D A Q nL W1 nc ns lv' pc st) : hn_At p l e R s m args below meth c D A Q nL W1 nc ns lv pc st := by
  intro H locs ls g hl
  exact k _ _ _ g (lv_sub hl is h)
theorem hn_wide {kc ks : Nat} (h : nc ≤ kc ∧ ns ≤ ks) (k : hn_At p l e R s m args below meth c D A Q nL W1 kc ks lv pc st) : hn_At p l e R s m args below meth c D A Q nL W1 nc ns lv pc st := by
  intro H locs ls g hl
  exact W.widen h.1 h.2 (k _ _ _ g hl)
end HNL
/-- all of the law's points: the class first, the reference behind it -/
def lw_w (cI cA : ClassId) (ad1 ad2 : Nat → Nat) (w v : hg_W) : va_W := hg_CW cI cA ad1 0 w ++ hg_CW cI cA ad2 1 v
theorem hn_arg {p : Program} {l : Launch} {e : Env} {R : Room} {s : State} {m : MethodId} {args : Array Value} {below : List Frame} {meth : Method} {c : Code} {D : va_G} {cI cA : ClassId} {ad : Nat → Nat} {o : Nat} {A : Nat → Prop} {Q : State → Prop} {W1 : va_W} {nc ns : Nat} {pc : Nat} {st : List Value} (B : hg_B p s m args meth c code RL wsL_law 4 D cI cA ad o A) {b L x1 x2 i : Nat} {xs : Nat → Int32} (hX : va_X b L xs s s.heap) (hbl : b < s.heap.size) (hbA : ¬ A b) (hL : L ≤ 3584) (j : Nat) (hj : j ≤ 6) (hi : i + 7 ≤ L) {pc1 : Nat} (d0 : decode code pc = .ok (.aload_n 0, 1)) (d1 : decode code (pc + 1) = .ok (.iload_n 3, 1)) (d2 : hn_cst code (pc + 2) (j : Int) pc1) (d3 : decode code pc1 = .ok (.iadd, 1)) (d4 : decode code (pc1 + 1) = .ok (.iaload, 1)) (k : hn_At p l e R s m args below meth c D A Q 4 W1 nc ns [(3, .int (hg_I (i : Int))), (2, .ref x2), (1, .ref x1), (0, .ref b)] (pc1 + 2) (.int (hg_I (xs (i + j)).toInt) :: st)) : hn_At p l e R s m args below meth c D A Q 4 W1 nc ns [(3, .int (hg_I (i : Int))), (2, .ref x2), (1, .ref x1), (0, .ref b)] pc st := by
  refine hn_aload_n B 3 d0 rfl rfl ?_
  refine hn_iload_n B 0 d1 rfl rfl ?_
  refine hn_cs B d2 ?_
  refine hn_iadd B d3 ?_
  refine hn_sld B hX hbl hbA (by rw [wr_id (x := (i : Int) + (j : Int)) (by omega) (by omega)]; omega) d4 ?_
  rw [wr_id (x := (i : Int) + (j : Int)) (by omega) (by omega), show ((i : Int) + (j : Int)).toNat = i + j by omega]
  exact k
