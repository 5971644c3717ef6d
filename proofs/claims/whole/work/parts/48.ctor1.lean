/-! ===== constructors: points over a part of the world, cells and slots counted ===== -/
def hn_G (D : va_G) (A : Nat → Prop) (s : State) (W : va_W) (H : Heap) (locs : List Loc) : Prop := va_P D vwCl W H ∧ va_D A W ∧ va_S A s.heap H locs
def hn_At (p : Program) (l : Launch) (e : Env) (R : Room) (s : State) (m : MethodId) (args : Array Value) (below : List Frame) (meth : Method) (c : Code) (D : va_G) (A : Nat → Prop) (Q : State → Prop) (nL : Nat) (W1 : va_W) (nc ns : Nat) (lv : List (Nat × Value)) (pc : Nat) (st : List Value) : Prop :=
  ∀ (H : Heap) (locs : List Loc) (ls : Array Slot), hn_G D A s W1 H locs → lv_has ls nL lv → W p l e R s m args below meth c H locs nc ns Q (F0 m pc ls st)
abbrev hn_ai (cI : ClassId) (q n : Nat) (f : Nat → Int32) : Nat × va_E := (q, .inl (cI, n, .inl f))
abbrev hn_aq (cA : ClassId) (q n : Nat) (f : Nat → Option Nat) : Nat × va_E := (q, .inl (cA, n, .inr (.inr (.inr (.inr f)))))
abbrev hn_o (q i : Nat) (fs : List Value) : Nat × va_E := (q, .inr (i, fs))
def hn_Pc (D : va_G) (cI cA : ClassId) (W0 : va_W) (As : List Value) (sz : Nat) : Array Value → State → Prop :=
  va_Pc As (fun U => U.heap.size = sz ∧ va_P D vwCl W0 U.heap ∧ va_K D vwCl (hg_tys cI cA) U ∧ va_D (fun _ => True) W0 ∧ hg_AO .int U)
def hn_Qv (D : va_G) (cI cA : ClassId) (A : Nat → Prop) (post : va_W → Prop) : Array Value → State → Outcome → State → Prop :=
  va_Qv (S := va_W) post (fun W1 t => va_P D vwCl W1 t.heap ∧ va_K D vwCl (hg_tys cI cA) t ∧ va_D A W1) A
/-- a constructor's contract -/
def hn_Mv (l : Launch) (y : MethodName) (ws : List Cond) (rm : Room) (D : va_G) (cI cA : ClassId) (W0 : va_W) (As : List Value) (post : va_W → Prop) : Prop :=
  ∀ sz : Nat, Met l y ws rm (hn_Pc D cI cA W0 As sz) (hn_Qv D cI cA (va_A W0 sz) post) rm.cells rm.slots (va_A W0 sz)
theorem hn_blind {D : va_G} {cI cA : ClassId} {W0 : va_W} {As : List Value} {sz : Nat} : FrameBlind (hn_Pc D cI cA W0 As sz) := by
  intro a U g mk q
  obtain ⟨q0, q1, qP, qK, qD, qE⟩ := q
  exact ⟨q0, q1, qP, va_K.moved (u := U) (U := U.calling g mk a) (Vm.Alike.refl U.vm) qK, qD, hg_AO.moved (u := U) (U := U.calling g mk a) (Vm.Alike.refl U.vm) qE⟩
theorem hn_met {l : Launch} {y : MethodName} {rm : Room} {D : va_G} {cI cA : ClassId} {W0 : va_W} {As : List Value} {post : va_W → Prop} (cc : ByteArray) (maxL : Nat) (ret : Option FieldType) (hp : plainName y.cls = true) (hlen : (lg_sl As).length ≤ maxL) (hy : y.name = "<init>")
    (k : ∀ (p : Program) (e : Env) (s : State) (m : MethodId) (args : Array Value) (below : List Frame) (meth : Method) (c : Code) (A : Nat → Prop), hg_B p s m args meth c cc y.cls wsL_law maxL D cI cA (fun _ => 0) 1 A → hg_AO .int s → meth.name = "<init>" → meth.sig.returnType = ret → hn_At p l e rm s m args below meth c D A (MQ below (hn_Qv D cI cA A post) args s rm.cells rm.slots A) maxL W0 0 0 (lv_args 0 As) 0 []) : hn_Mv l y (Cond.code y cc maxL ret :: wsL_law) rm D cI cA W0 As post := by
  intro sz
  refine Met.ofW (cc := cc) (maxL := maxL) (ret := ret) hp rfl ?_
  intro p e s m args below meth c s₁ B hml hv
  obtain ⟨rfl, hsz, hP, hK, hD0, hE⟩ := hv
  subst hsz
  have hD := hD0.self (sz := s.heap.size)
  have hB : hg_B p s m As.toArray meth c cc y.cls wsL_law maxL D cI cA (fun _ => 0) 1 (va_A W0 s.heap.size) := ⟨B.exec, B.bytes, hml, findClass_of_methodNamed B.named, fun w hw => atoms_spec (ws := Cond.code y cc maxL ret :: wsL_law) B.pre w (List.mem_cons_of_mem _ hw), B.notSynchronized, fun q h => Or.inr h, hK, fun h => absurd h (by decide)⟩
  have hl := lv_entry As (n := maxL) hlen
  rw [lg_entry_eq]
  have hin : meth.name = "<init>" := (name_of_methodNamed B.named B.method).1.trans hy
  exact k p e s m As.toArray below meth c _ hB hE hin B.returns s.heap [] _ ⟨hP, hD, va_S.rf⟩ hl
section HN
variable {p : Program} {l : Launch} {e : Env} {R : Room} {s : State} {m : MethodId} {args : Array Value} {below : List Frame} {meth : Method} {c : Code} {D : va_G} {cI cA : ClassId} {ad : Nat → Nat} {o : Nat} {A : Nat → Prop} {Q : State → Prop} {nL : Nat} {W1 W2 : va_W} {nc ns : Nat} {lv : List (Nat × Value)} {pc : Nat} {st : List Value} {cc : ByteArray} {own : String} {ws : List Cond}
theorem hn_iconst (B : hg_B p s m args meth c cc own ws nL D cI cA ad o A) {n : Int} (d : decode cc pc = .ok (.iconst n, 1)) (k : hn_At p l e R s m args below meth c D A Q nL W1 nc ns lv (pc + 1) (.int (hg_I n) :: st)) : hn_At p l e R s m args below meth c D A Q nL W1 nc ns lv pc st := by
  obtain ⟨hx, hb, hml, hown, hts, hlk, hA, hK, hE⟩ := B
  intro H locs ls g hl
  exact lv_iconst hx hb d rfl (k _ _ _ g hl)
theorem hn_bipush (B : hg_B p s m args meth c cc own ws nL D cI cA ad o A) {n : Int} (d : decode cc pc = .ok (.bipush n, 2)) (hn : (Int8.ofInt n).toInt32 = hg_I n) (k : hn_At p l e R s m args below meth c D A Q nL W1 nc ns lv (pc + 2) (.int (hg_I n) :: st)) : hn_At p l e R s m args below meth c D A Q nL W1 nc ns lv pc st := by
  obtain ⟨hx, hb, hml, hown, hts, hlk, hA, hK, hE⟩ := B
  intro H locs ls g hl
  exact lv_bipush hx hb d hn (k _ _ _ g hl)
theorem hn_sipush (B : hg_B p s m args meth c cc own ws nL D cI cA ad o A) {n : Int} (d : decode cc pc = .ok (.sipush n, 3)) (hn : (Int16.ofInt n).toInt32 = hg_I n) (k : hn_At p l e R s m args below meth c D A Q nL W1 nc ns lv (pc + 3) (.int (hg_I n) :: st)) : hn_At p l e R s m args below meth c D A Q nL W1 nc ns lv pc st := by
  obtain ⟨hx, hb, hml, hown, hts, hlk, hA, hK, hE⟩ := B
  intro H locs ls g hl
  exact lv_sipush hx hb d hn (k _ _ _ g hl)
theorem hn_iload_n (B : hg_B p s m args meth c cc own ws nL D cI cA ad o A) {k0 : Fin 4} (j : Nat) {x : Int32} {i : Nat} (d : decode cc pc = .ok (.iload_n k0, 1)) (hi : (k0 : Nat) = i) (hj : lv[j]? = some (i, .int x)) (k : hn_At p l e R s m args below meth c D A Q nL W1 nc ns lv (pc + 1) (.int x :: st)) : hn_At p l e R s m args below meth c D A Q nL W1 nc ns lv pc st := by
  obtain ⟨hx, hb, hml, hown, hts, hlk, hA, hK, hE⟩ := B
  intro H locs ls g hl
  exact lv_iload_n hx hb d hi (lv_at hl j hj) (k _ _ _ g hl)
theorem hn_aload_n (B : hg_B p s m args meth c cc own ws nL D cI cA ad o A) {k0 : Fin 4} (j : Nat) {x : Nat} {i : Nat} (d : decode cc pc = .ok (.aload_n k0, 1)) (hi : (k0 : Nat) = i) (hj : lv[j]? = some (i, .ref x)) (k : hn_At p l e R s m args below meth c D A Q nL W1 nc ns lv (pc + 1) (.ref x :: st)) : hn_At p l e R s m args below meth c D A Q nL W1 nc ns lv pc st := by
  obtain ⟨hx, hb, hml, hown, hts, hlk, hA, hK, hE⟩ := B
  intro H locs ls g hl
  exact lv_aload_n hx hb d hi (lv_at hl j hj) (k _ _ _ g hl)
theorem hn_istore_n (B : hg_B p s m args meth c cc own ws nL D cI cA ad o A) {k0 : Fin 4} {i : Nat} {x : Int32} (lv' : List (Nat × Value)) (d : decode cc pc = .ok (.istore_n k0, 1)) (hi : (k0 : Nat) = i) (hn : i < nL) (hl' : (i, Value.int x) :: lv.filter (fun q => !(q.1 == i) && !(q.1 + 1 == i && q.2.category == 2)) = lv') (k : hn_At p l e R s m args below meth c D A Q nL W1 nc ns lv' (pc + 1) st) : hn_At p l e R s m args below meth c D A Q nL W1 nc ns lv pc (.int x :: st) := by
  obtain ⟨hx, hb, hml, hown, hts, hlk, hA, hK, hE⟩ := B
  intro H locs ls g hl
  exact lv_istore_n hx hb d hi hl hn hl' (fun ls' h => k _ _ _ g h)
theorem hn_iinc (B : hg_B p s m args meth c cc own ws nL D cI cA ad o A) {i : Nat} (j : Nat) {n : Int} {x : Int} (lv' : List (Nat × Value)) (d : decode cc pc = .ok (.iinc i n, 3)) (hj : lv[j]? = some (i, .int (hg_I x))) (hn : i < nL) (hl' : (i, Value.int (hg_I (x + n))) :: lv.filter (fun q => !(q.1 == i) && !(q.1 + 1 == i && q.2.category == 2)) = lv') (k : hn_At p l e R s m args below meth c D A Q nL W1 nc ns lv' (pc + 3) st) : hn_At p l e R s m args below meth c D A Q nL W1 nc ns lv pc st := by
  obtain ⟨hx, hb, hml, hown, hts, hlk, hA, hK, hE⟩ := B
  intro H locs ls g hl
  exact lv_iinc hx hb d hl hj (hg_I_add x n).symm hn hl' (fun ls' h => k _ _ _ g h)
theorem hn_iadd (B : hg_B p s m args meth c cc own ws nL D cI cA ad o A) {x y : Int} (d : decode cc pc = .ok (.iadd, 1)) (k : hn_At p l e R s m args below meth c D A Q nL W1 nc ns lv (pc + 1) (.int (hg_I (x + y)) :: st)) : hn_At p l e R s m args below meth c D A Q nL W1 nc ns lv pc (.int (hg_I y) :: .int (hg_I x) :: st) := by
  obtain ⟨hx, hb, hml, hown, hts, hlk, hA, hK, hE⟩ := B
  intro H locs ls g hl
  exact lv_iadd hx hb d (by rw [← hg_I_add]; exact k _ _ _ g hl)
theorem hn_ishl (B : hg_B p s m args meth c cc own ws nL D cI cA ad o A) {x y : Int} (d : decode cc pc = .ok (.ishl, 1)) (k : hn_At p l e R s m args below meth c D A Q nL W1 nc ns lv (pc + 1) (.int (hg_I (hg_shl x y)) :: st)) : hn_At p l e R s m args below meth c D A Q nL W1 nc ns lv pc (.int (hg_I y) :: .int (hg_I x) :: st) := by
  obtain ⟨hx, hb, hml, hown, hts, hlk, hA, hK, hE⟩ := B
  intro H locs ls g hl
  exact lv_ishl hx hb d (by have h := k _ _ _ g hl; unfold hg_shl at h; rw [hg_I_toInt] at h; exact h)
theorem hn_dup (B : hg_B p s m args meth c cc own ws nL D cI cA ad o A) {v : Value} (d : decode cc pc = .ok (.dup, 1)) (hc : v.category = 1) (k : hn_At p l e R s m args below meth c D A Q nL W1 nc ns lv (pc + 1) (v :: v :: st)) : hn_At p l e R s m args below meth c D A Q nL W1 nc ns lv pc (v :: st) := by
  obtain ⟨hx, hb, hml, hown, hts, hlk, hA, hK, hE⟩ := B
  intro H locs ls g hl
  exact lv_dup hx hb d hc (k _ _ _ g hl)
theorem hn_pop (B : hg_B p s m args meth c cc own ws nL D cI cA ad o A) {v : Value} (d : decode cc pc = .ok (.pop, 1)) (hc : v.category = 1) (k : hn_At p l e R s m args below meth c D A Q nL W1 nc ns lv (pc + 1) st) : hn_At p l e R s m args below meth c D A Q nL W1 nc ns lv pc (v :: st) := by
  obtain ⟨hx, hb, hml, hown, hts, hlk, hA, hK, hE⟩ := B
  intro H locs ls g hl
  exact lv_pop hx hb d hc (k _ _ _ g hl)
theorem hn_goto (B : hg_B p s m args meth c cc own ws nL D cI cA ad o A) {off : Int} {tgt : Nat} (d : decode cc pc = .ok (.goto off, 3)) (ht : (pc : Int) + off = (tgt : Int)) (k : hn_At p l e R s m args below meth c D A Q nL W1 nc ns lv tgt st) : hn_At p l e R s m args below meth c D A Q nL W1 nc ns lv pc st := by
  obtain ⟨hx, hb, hml, hown, hts, hlk, hA, hK, hE⟩ := B
  intro H locs ls g hl
  exact lv_goto hx hb d ht (k _ _ _ g hl)
theorem hn_icmp_ge {α : Type} {X Y : Option α} {r : α} (B : hg_B p s m args meth c cc own ws nL D cI cA ad o A) {x y : Int} {off : Int} {tgt : Nat} (d : decode cc pc = .ok (.if_icmp .ge off, 3)) (ht : (pc : Int) + off = (tgt : Int)) (h : (if wr y ≤ wr x then X else Y) = some r) (kt : X = some r → hn_At p l e R s m args below meth c D A Q nL W1 nc ns lv tgt st) (kf : Y = some r → hn_At p l e R s m args below meth c D A Q nL W1 nc ns lv (pc + 3) st) : hn_At p l e R s m args below meth c D A Q nL W1 nc ns lv pc (.int (hg_I y) :: .int (hg_I x) :: st) := by
  obtain ⟨hx, hb, hml, hown, hts, hlk, hA, hK, hE⟩ := B
  intro H locs ls g hl
  refine lv_icmp_ge hx hb d ht (fun q => ?_) (fun q => ?_)
  · have q2 : wr y ≤ wr x := hg_I_le.mp q
    rw [if_pos q2] at h
    exact kt h _ _ _ g hl
  · have q2 : ¬ (wr y ≤ wr x) := fun z => q (hg_I_le.mpr z)
    rw [if_neg q2] at h
    exact kf h _ _ _ g hl
theorem hn_obj (B : hg_B p s m args meth c cc own ws nL D cI cA ad o A) {idx a : Nat} (h1 : Cond.methodLink own idx Lib.objectInit ∈ ws) (h2 : Cond.instanceMethod Lib.objectInit ∈ ws) (h3 : Cond.code Lib.objectInit ⟨#[0xb1]⟩ 1 none ∈ ws) (hR : 1 ≤ R.frames ∧ 30 ≤ R.locals) (d : decode cc pc = .ok (.invokespecial idx, 3)) (k : hn_At p l e R s m args below meth c D A Q nL W1 nc ns lv (pc + 3) []) : hn_At p l e R s m args below meth c D A Q nL W1 nc ns lv pc [.ref a] := by
  obtain ⟨hx, hb, hml, hown, hts, hlk, hA, hK, hE⟩ := B
  intro H locs ls g hl
  refine W.objInit hx hb hown (hts _ h1) (hts _ h2) (hts _ h3) rfl (by rw [hml]; exact hl.1) rfl d hR.1 (Nat.le_trans (Nat.le_of_ble_eq_true rfl) hR.2) ?_
  exact W.eq (g2 := F0 m (pc + 3) ls []) rfl (k _ _ _ g hl)
theorem hn_iast (B : hg_B p s m args meth c cc own ws nL D cI cA ad o A) (q0 : Nat) {q n : Nat} {f : Nat → Int32} (ha : W1[q0]? = some (hn_ai cI q n f)) {i x : Int} (hin : 0 ≤ wr i ∧ wr i < (n : Int)) (d : decode cc pc = .ok (.iastore, 1)) (hw : W1.set q0 (hn_ai cI q n (upd f (wr i).toNat (hg_I x))) = W2) (k : hn_At p l e R s m args below meth c D A Q nL W2 nc ns lv (pc + 1) st) : hn_At p l e R s m args below meth c D A Q nL W1 nc ns lv pc (.int (hg_I x) :: .int (hg_I i) :: .ref q :: st) := by
  obtain ⟨hx, hb, hml, hown, hts, hlk, hA, hK, hE⟩ := B
  intro H locs ls g hl
  subst hw
  exact va_iast hx hb hK g.1 g.2.1 g.2.2 q0 0 ha rfl (hg_in hin) d (fun H1 locs1 hP hD hS => k _ _ _ ⟨hP, hD, hS⟩ hl)
theorem hn_iald (B : hg_B p s m args meth c cc own ws nL D cI cA ad o A) (q0 : Nat) {q n : Nat} {f : Nat → Int32} (ha : W1[q0]? = some (hn_ai cI q n f)) {i : Int} (hin : 0 ≤ wr i ∧ wr i < (n : Int)) (d : decode cc pc = .ok (.iaload, 1)) (k : hn_At p l e R s m args below meth c D A Q nL W1 nc ns lv (pc + 1) (.int (f (wr i).toNat) :: st)) : hn_At p l e R s m args below meth c D A Q nL W1 nc ns lv pc (.int (hg_I i) :: .ref q :: st) := by
  obtain ⟨hx, hb, hml, hown, hts, hlk, hA, hK, hE⟩ := B
  intro H locs ls g hl
  exact va_iald hx hb hK g.1 q0 0 ha rfl (hg_in hin) d (k _ _ _ g hl)
theorem hn_newa (B : hg_B p s m args meth c cc own ws nL D cI cA ad o A) {n : Int} {N : Nat} (hn : 0 ≤ wr n ∧ (wr n).toNat = N ∧ N ≤ 2000) (hAC : Cond.arrayClass .int ∈ ws) (hc : nc + 1 ≤ R.cells) (hs : ns + N ≤ R.slots) (d : decode cc pc = .ok (.newarray .int, 2)) (k : ∀ q : Nat, hn_At p l e R s m args below meth c D A Q nL (W1 ++ [hn_ai cI q N (fun _ => 0)]) (nc + 1) (ns + N) lv (pc + 2) (.ref q :: st)) : hn_At p l e R s m args below meth c D A Q nL W1 nc ns lv pc (.int (hg_I n) :: st) := by
  obtain ⟨hx, hb, hml, hown, hts, hlk, hA, hK, hE⟩ := B
  intro H locs ls g hl
  refine va_newa (atype := .int) (a0 := (N, .inl (fun _ => 0))) (N' := N) hx hb (hts _ hAC) (ty := .int) rfl hK g.1 g.2.1 g.2.2 hA (fun cX => by rw [vp_cell_i]; rfl) (fun q => by rw [show (0 : Int32) = hg_I 0 from rfl, hg_I_lt] at q; have : wr 0 = 0 := rfl; omega) hn.2.1 (by show N * 4 ≤ _; omega) hc hs d (fun q cX H1 hK1 hP hD hS => ?_)
  have e1 : s.vm.findClass "[I" = some cX := va_nm_int (hK1.2 2 (cX, .int) rfl).2
  have e2 : s.vm.findClass "[I" = some cI := va_nm_int (hK.2 0 (cI, .int) rfl).2
  rw [e1] at e2
  cases e2
  exact k q _ _ _ ⟨hP, hD, hS⟩ hl
theorem hn_get (B : hg_B p s m args meth c cc own ws nL D cI cA ad o A) (q0 ci : Nat) {C : String} {T : u_T} {N : Nat} {q idx f : Nat} {fs : List Value} {v : Value} (hc : vwCl[ci]? = some (C, T, N)) (ha : W1[q0]? = some (hn_o q ci fs)) (hin : ∀ x ∈ u_ws C T N, x ∈ ws) (hf : f < N) (hlink : Cond.fieldLink own idx C (T f).2.1 (T f).2.2.1 ∈ ws) (hd : (T f).1 = C) (hv : fs[f]? = some v) (d : decode cc pc = .ok (.getfield idx, 3)) (k : hn_At p l e R s m args below meth c D A Q nL W1 nc ns lv (pc + 3) (v :: st)) : hn_At p l e R s m args below meth c D A Q nL W1 nc ns lv pc (.ref q :: st) := by
  obtain ⟨hx, hb, hml, hown, hts, hlk, hA, hK, hE⟩ := B
  intro H locs ls g hl
  exact va_get (D := D) (ci := ci) (v := v) (C := C) (T := T) (N := N) hx hb hts hin hown hK g.1 q0 ha hc f hf (hts _ hlink) (fun _ h9 => by rw [← hd]; exact h9) hv d (k _ _ _ g hl)

theorem hn_put (B : hg_B p s m args meth c cc own ws nL D cI cA ad o A) (q0 ci : Nat) {C : String} {T : u_T} {N : Nat} {q idx f : Nat} {fs : List Value} {v : Value} (hc : vwCl[ci]? = some (C, T, N)) (ty0 : Nat → FieldType) (hty0 : ∀ k, k < N → parseFieldDescriptor (T k).2.2.1 = some (ty0 k)) (hnm : ∀ a, a < N → ∀ b, b < N → a ≠ b → (T a).2.1 ≠ (T b).2.1) (ha : W1[q0]? = some (hn_o q ci fs)) (hin : ∀ x ∈ u_ws C T N, x ∈ ws) (hf : f < N) (hfl : f < fs.length) (hlink : Cond.fieldLink own idx C (T f).2.1 (T f).2.2.1 ∈ ws) (hd : (T f).1 = C) (hfin : (T f).2.2.2 = false) {ty : FieldType} (hty : parseFieldDescriptor (T f).2.2.1 = some ty) (hn : narrow ty v = v) (hfit : fits ty v = true) (d : decode cc pc = .ok (.putfield idx, 3)) (hw : W1.set q0 (hn_o q ci (fs.set f v)) = W2) (k : hn_At p l e R s m args below meth c D A Q nL W2 nc ns lv (pc + 3) st) : hn_At p l e R s m args below meth c D A Q nL W1 nc ns lv pc (v :: .ref q :: st) := by
  obtain ⟨hx, hb, hml, hown, hts, hlk, hA, hK, hE⟩ := B
  intro H locs ls g hl
  subst hw
  exact va_put (D := D) (ci := ci) (v := v) (ty := ty) (C := C) (T := T) (N := N) hx hb hts hin ty0 hty0 hnm hown hK g.1 g.2.1 g.2.2 q0 ha hc f hf (hts _ hlink) (fun _ h9 => by rw [← hd]; exact h9) hfin hty hn hfit hfl d (fun H1 locs1 hP hD hS => k _ _ _ ⟨hP, hD, hS⟩ hl)
theorem hn_putF (B : hg_B p s m args meth c cc own ws nL D cI cA ad o A) (q0 ci : Nat) {C : String} {T : u_T} {N : Nat} {q idx f : Nat} {fs : List Value} {v : Value} (hc : vwCl[ci]? = some (C, T, N)) (ty0 : Nat → FieldType) (hty0 : ∀ k, k < N → parseFieldDescriptor (T k).2.2.1 = some (ty0 k)) (hnm : ∀ a, a < N → ∀ b, b < N → a ≠ b → (T a).2.1 ≠ (T b).2.1) (ha : W1[q0]? = some (hn_o q ci fs)) (hin : ∀ x ∈ u_ws C T N, x ∈ ws) (hf : f < N) (hfl : f < fs.length) (hlink : Cond.fieldLink own idx C (T f).2.1 (T f).2.2.1 ∈ ws) (hd : (T f).1 = C) (hd2 : (T f).1 = own) (hm : meth.name = "<init>") (hfin : (T f).2.2.2 = true) {ty : FieldType} (hty : parseFieldDescriptor (T f).2.2.1 = some ty) (hn : narrow ty v = v) (hfit : fits ty v = true) (d : decode cc pc = .ok (.putfield idx, 3)) (hw : W1.set q0 (hn_o q ci (fs.set f v)) = W2) (k : hn_At p l e R s m args below meth c D A Q nL W2 nc ns lv (pc + 3) st) : hn_At p l e R s m args below meth c D A Q nL W1 nc ns lv pc (v :: .ref q :: st) := by
  obtain ⟨hx, hb, hml, hown, hts, hlk, hA, hK, hE⟩ := B
  intro H locs ls g hl
  subst hw
  exact va_putF (D := D) (ci := ci) (v := v) (ty := ty) (C := C) (T := T) (N := N) hx hb hts hin ty0 hty0 hnm hown hK g.1 g.2.1 g.2.2 q0 ha hc f hf (hts _ hlink) (fun _ h9 => by rw [← hd]; exact h9) hfin hm hd2 hty hn hfit hfl d (fun H1 locs1 hP hD hS => k _ _ _ ⟨hP, hD, hS⟩ hl)
theorem hn_new (B : hg_B p s m args meth c cc own ws nL D cI cA ad o A) (ci : Nat) {C : String} {T : u_T} {N idx : Nat} (fs : List Value) (hc : vwCl[ci]? = some (C, T, N)) (ty0 : Nat → FieldType) (hty0 : ∀ k, k < N → parseFieldDescriptor (T k).2.2.1 = some (ty0 k)) (hfs : ∀ j, j < N → defaultValue (ty0 j) = vp_V fs j) (hin : ∀ x ∈ u_ws C T N, x ∈ ws) (h1 : Cond.classLink own idx C ∈ ws) (h2 : Cond.instantiable C N ∈ ws) (h3 : Cond.initialized C ∈ ws) (hc1 : nc + 1 ≤ R.cells) (hs1 : ns + N ≤ R.slots) (d : decode cc pc = .ok (.new idx, 3)) (k : ∀ q : Nat, hn_At p l e R s m args below meth c D A Q nL (W1 ++ [hn_o q ci fs]) (nc + 1) (ns + N) lv (pc + 3) (.ref q :: st)) : hn_At p l e R s m args below meth c D A Q nL W1 nc ns lv pc st := by
  obtain ⟨hx, hb, hml, hown, hts, hlk, hA, hK, hE⟩ := B
  intro H locs ls g hl
  exact va_new (ci := ci) (fs := fs) (C := C) (T := T) (N := N) hx hb hts hin ty0 hty0 hown (hts _ h1) (hts _ h2) (hts _ h3) hK g.1 g.2.1 g.2.2 hA hc hfs hc1 hs1 d (fun q H1 hP hD hS => k q _ _ _ ⟨hP, hD, hS⟩ hl)
theorem hn_aald (B : hg_B p s m args meth c cc own ws nL D cI cA ad o A) (q0 : Nat) {q n r : Nat} {f : Nat → Option Nat} (ha : W1[q0]? = some (hn_aq cA q n f)) {i : Int} (hin : 0 ≤ wr i ∧ wr i < (n : Int)) (hr : f (wr i).toNat = some r) (d : decode cc pc = .ok (.aaload, 1)) (k : hn_At p l e R s m args below meth c D A Q nL W1 nc ns lv (pc + 1) (.ref r :: st)) : hn_At p l e R s m args below meth c D A Q nL W1 nc ns lv pc (.int (hg_I i) :: .ref q :: st) := by
  obtain ⟨hx, hb, hml, hown, hts, hlk, hA, hK, hE⟩ := B
  intro H locs ls g hl
  have hc := g.1 q0 _ ha
  have hlt : (hg_I i).toNatClampNeg < n := by show (wr i).toNat < _; omega
  have hin2 := hg_in hin
  refine W.aald (v := .ref r) (cell := vp_cell cA (n, .inr (.inr (.inr (.inr f))))) (ty := .array .int) hx hb hc ((hK.2 1 _ rfl).1 n (fun j => va_rf (f j))) rfl (fun q => by cases q) (by show ¬ (hg_I i < 0 ∨ (arrV _ _ _).slots.size ≤ _); rw [arrV_size]; exact hin2) (by show (arrV _ _ _).slots[_]? = _; rw [arrV_read _ _ hlt]; show some (va_rf (f (wr i).toNat)) = _; rw [hr]; rfl) rfl rfl d (k _ _ _ g hl)
theorem hn_pl {l0 : List Nat} {f : Nat → va_E} {v : va_E} : va_pl l0 (vr_up f l0 v) = l0.map (fun a => (a, v)) := by
  unfold va_pl
  apply List.map_congr_left
  intro a ha
  rw [vr_up_in ha]
theorem hn_mna (B : hg_B p s m args meth c cc own ws nL D cI cA ad o A) (hAO : hg_AO .int s) {n k0 : Int} {N K idx : Nat} (hn : 0 ≤ wr n ∧ (wr n).toNat = N ∧ N ≤ 2000) (hk : 0 ≤ wr k0 ∧ (wr k0).toNat = K ∧ K ≤ 2000) (hAC : Cond.arrayClass .int ∈ ws) (hCL : Cond.classLink own idx "[[I" ∈ ws) (hc1 : nc + (1 + N) ≤ R.cells) (hs1 : ns + (N + N * K) ≤ R.slots) (d : decode cc pc = .ok (.multianewarray idx 2, 4)) (k : ∀ (q : Nat) (r : Nat → Nat), hn_At p l e R s m args below meth c D A Q nL ((W1 ++ [hn_aq cA q N (fun i => if i < N then some (r i) else none)]) ++ (List.range N).map (fun i => hn_ai cI (r i) K (fun _ => 0))) (nc + 1 + N) (ns + N + N * K) lv (pc + 4) (.ref q :: st)) : hn_At p l e R s m args below meth c D A Q nL W1 nc ns lv pc (.int (hg_I k0) :: .int (hg_I n) :: st) := by
  obtain ⟨hx, hb, hml, hown, hts, hlk, hA, hK, hE⟩ := B
  intro H locs ls g hl
  have e2 : s.vm.findClass "[I" = some cI := va_nm_int (hK.2 0 (cI, .int) rfl).2
  have e3 : s.vm.findClass "[[I" = some cA := (hK.2 1 (cA, .array .int) rfl).2
  have w0 : wr 0 = 0 := rfl
  have hP0 : va_P D vwCl (W1 ++ va_pl [] (fun _ => .inl (cI, 0, .inl (fun _ => 0)))) H := by
    show va_P D vwCl (W1 ++ []) H
    rw [List.append_nil]; exact g.1
  have hD0 : va_D A (W1 ++ va_pl [] (fun _ => .inl (cI, 0, .inl (fun _ => 0)))) := by
    show va_D A (W1 ++ [])
    rw [List.append_nil]; exact g.2.1
  refine va_mna (X := W1) (L := []) (f := fun _ => .inl (cI, 0, .inl (fun _ => 0))) (ty := .int) (cy := cI) (z := (K, .inl (fun _ => 0))) (N' := N) (K' := K) hx hb hown (hts _ hCL) hAO (hts _ hAC) e2 hK hP0 hD0 g.2.2 hA (fun q => by rw [show (0 : Int32) = hg_I 0 from rfl, hg_I_lt] at q; omega) (fun q => by rw [show (0 : Int32) = hg_I 0 from rfl, hg_I_lt] at q; omega) hn.2.1 hk.2.1 (by omega) (by show K * 4 ≤ _; omega) (by omega) rfl rfl hc1 hs1 (fun cX => ?_) d (fun q r cX H1 _ _ hK1 hP hD hS => ?_)
  · rw [vp_cell_i]
    show ({ cls := cX, slots := Array.replicate K (defaultValue .int), vm := .none } : Cell) = _
    rw [arrV_new]
    rfl
  · have e1 : s.vm.findClass "[[I" = some cX := (hK1.2 2 (cX, .array .int) rfl).2
    rw [e1] at e3
    cases e3
    have er : va_pl ([] ++ (List.range N).map r) (vr_up (fun _ => .inl (cI, 0, .inl (fun _ => 0))) ((List.range N).map r) (.inl (cI, (K, .inl (fun _ => 0))))) = (List.range N).map (fun i => hn_ai cI (r i) K (fun _ => 0)) := by
      rw [List.nil_append, hn_pl, List.map_map]
      rfl
    rw [er] at hP hD
    exact k q r _ _ _ ⟨hP, hD, hS⟩ hl
theorem hn_init (B : hg_B p s m args meth c cc own ws nL D cI cA ad o A) (hAO : hg_AO .int s) {idx n maxL : Nat} {y : MethodName} {bytes : ByteArray} {ws' : List Cond} {rm : Room} {As st0 : List Value} {q : Nat} (wc wr0 : va_W) {post : va_W → Prop} (isC isR : List Nat) (d : decode cc pc = .ok (.invokespecial idx, 3)) (hM : hn_Mv l y (Cond.code y bytes maxL none :: ws') rm D cI cA wc (.ref q :: As) post) (hG : GoodIn ws (Cond.code y bytes maxL none :: ws')) (h1 : Cond.methodLink own idx y ∈ ws) (h2 : Cond.instanceMethod y ∈ ws) (h3 : Cond.initialized y.cls ∈ ws) (hy : y.name = "<init>") (hd : y.cls ≠ "java/lang/invoke/MethodHandle" ∧ y.cls ≠ "java/lang/invoke/VarHandle" ∧ (parseMethodDescriptor y.desc).map (fun d => d.parameters.length) = some n) (hC : isC.map (fun i => W1[i]?) = wc.map some) (hR0 : isR.map (fun i => W1[i]?) = wr0.map some) (hnd : va_nd isR = true) (hndC : va_nd isC = true) (hdis : ∀ i ∈ isR, i ∉ isC) (hRm : rm.frames + 1 ≤ R.frames ∧ 8 + (maxL + 11) + rm.locals ≤ R.locals) (hcnt : nc + rm.cells ≤ R.cells ∧ ns + rm.slots ≤ R.slots) (hn : As.length = n) (hst : st0 = As.reverse ++ .ref q :: st) (hcat : (st.map fun v => v.category).sum ≤ 8) (k : ∀ w1, post w1 → hn_At p l e R s m args below meth c D A Q nL (wr0 ++ w1) (nc + rm.cells) (ns + rm.slots) lv (pc + 3) st) : hn_At p l e R s m args below meth c D A Q nL W1 nc ns lv pc st0 := by
  obtain ⟨hx, hb, hml, hown, hts, hlk, hA, hK, hE⟩ := B
  intro H locs ls g hl
  have sub : ∀ {is : List Nat} {w : va_W}, is.map (fun i => W1[i]?) = w.map some → ∀ (k : Nat) (q : Nat × va_E), w[k]? = some q → ∃ i : Nat, W1[i]? = some q := by
    intro is w hs k q hq
    have h1 : (is.map (fun i => W1[i]?))[k]? = some (some q) := by rw [hs, List.getElem?_map, hq]; rfl
    rw [List.getElem?_map] at h1
    cases hi : is[k]? with
    | none => rw [hi] at h1; cases h1
    | some i => rw [hi] at h1; exact ⟨i, Option.some.inj h1⟩
  have hPc : va_P D vwCl wc H := fun k q hq => by
    obtain ⟨i, hi⟩ := sub hC k q hq
    exact g.1 i q hi
  have hFc := va_free (wc := wc) g.2.1 g.2.2 hA isC hC
  have hDc : va_D (fun _ => True) wc := (g.2.1.sub isC hndC hC).weaken (fun _ _ _ _ => trivial)
  refine va_callv (va_runI (As := As) (rest := st) ⟨hx, hb, hml, hown, hts⟩ (hM H.size) (cwI n hts hG rfl rfl rfl (hts _ h3) (hts _ h1) (hts _ h2) hy hd hRm) ⟨hn_blind, fun U hU hW => ⟨rfl, by rw [hU], by rw [hU]; exact hPc, va_K.moved hW.alike hK, hDc, hg_AO.moved hW.alike hAO⟩⟩ rfl hn hl.1 hst (lv_room hcat) d hcnt) g.2.2 (fun q _ h => hFc q h) hFc ?_
  intro u t H1 locs1 ht hvm hpost hB hz1 hk1 hS
  obtain ⟨hP1, hK1, hD1⟩ := hB
  rw [ht] at hP1
  obtain ⟨hP, hD⟩ := va_join (wr := wr0) (w1 := u) g.1 g.2.1 isC isR hC hR0 hnd hdis hk1 hFc hP1 hD1
  exact k u hpost _ _ _ ⟨hP, hD, hS⟩ hl
theorem hn_vret (B : hg_B p s m args meth c cc own ws nL D cI cA ad o A) (hr : meth.sig.returnType = none) {post : va_W → Prop} (isW : List Nat) (hnd : va_nd isW = true) (hW2 : isW.map (fun i => W1[i]?) = W2.map some) (hp : post W2) (d : decode cc pc = .ok (.return_, 1)) {kc ks : Nat} (hc : nc ≤ kc ∧ ns ≤ ks) : hn_At p l e R s m args below meth c D A (MQ below (hn_Qv D cI cA A post) args s kc ks A) nL W1 nc ns lv pc [] := by
  obtain ⟨hx, hb, hml, hown, hts, hlk, hA, hK, hE⟩ := B
  intro H locs ls g hl
  refine W.widen hc.1 hc.2 ?_
  have hP2 : va_P D vwCl W2 H := fun k q hq => by
    have h1 : (isW.map (fun i => W1[i]?))[k]? = some (some q) := by rw [hW2, List.getElem?_map, hq]; rfl
    rw [List.getElem?_map] at h1
    cases hi : isW[k]? with
    | none => rw [hi] at h1; cases h1
    | some i => rw [hi] at h1; exact g.1 i q (Option.some.inj h1)
  exact W.vret hx hb hr (fun t ht hW => ⟨⟨W2, rfl, hp, by rw [ht]; exact hP2, va_K.moved hW.alike hK, g.2.1.sub isW hnd hW2⟩, g.2.2.F ht⟩) g.2.2.2.2 d
end HN
