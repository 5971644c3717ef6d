/-! ===== a world of two parts; a part as the cells of an object ===== -/
theorem hn_mapL {Wa Wb : va_W} {n : Nat} (hA : Wa.length = n) : (List.range n).map (fun i => (Wa ++ Wb)[i]?) = Wa.map some := by
  subst hA
  apply List.ext_getElem?
  intro i
  rw [List.getElem?_map, List.getElem?_map]
  by_cases h : i < Wa.length
  · rw [List.getElem?_range h]
    show some ((Wa ++ Wb)[i]?) = _
    rw [List.getElem?_append_left h, List.getElem?_eq_getElem h]
    rfl
  · rw [List.getElem?_eq_none (by rw [List.length_range]; omega), List.getElem?_eq_none (by omega)]
    rfl
theorem hn_mapR {Wa Wb : va_W} {n k : Nat} (hA : Wa.length = n) (hB : Wb.length = k) : ((List.range k).map (fun i => n + i)).map (fun i => (Wa ++ Wb)[i]?) = Wb.map some := by
  subst hA
  subst hB
  apply List.ext_getElem?
  intro i
  rw [List.getElem?_map, List.getElem?_map, List.getElem?_map]
  by_cases h : i < Wb.length
  · rw [List.getElem?_range h]
    show some ((Wa ++ Wb)[Wa.length + i]?) = _
    rw [List.getElem?_append_right (by omega), Nat.add_sub_cancel_left, List.getElem?_eq_getElem h]
    rfl
  · rw [List.getElem?_eq_none (by rw [List.length_range]; omega), List.getElem?_eq_none (by omega)]
    rfl
theorem hn_CWl {cI cA : ClassId} {ad : Nat → Nat} {o : Nat} {w : hg_W} : (hg_CW cI cA ad o w).length = hg_N o := by simp [hg_CW]
theorem hn_arrV {cX : ClassId} {n : Nat} {F G : Nat → Value} (h : ∀ j, j < n → F j = G j) : arrV cX n F = arrV cX n G := by
  unfold arrV
  have e : (fun j : Fin n => F j.val) = fun j => G j.val := funext fun j => h j.1 j.2
  rw [e]
def hn_same (e e' : va_E) : Prop := e = e' ∨ (∃ (c : ClassId) (n : Nat) (f g : Nat → Int32), e = .inl (c, n, .inl f) ∧ e' = .inl (c, n, .inl g) ∧ ∀ j, j < n → f j = g j) ∨ (∃ (c : ClassId) (n : Nat) (f g : Nat → Option Nat), e = .inl (c, n, .inr (.inr (.inr (.inr f)))) ∧ e' = .inl (c, n, .inr (.inr (.inr (.inr g)))) ∧ ∀ j, j < n → f j = g j)
theorem hn_same.at {D : va_G} {H : Heap} {q : Nat} {e e' : va_E} (h : hn_same e e') (hp : va_at D vwCl (q, e) H) : va_at D vwCl (q, e') H := by
  rcases h with rfl | ⟨cX, n, f, g, rfl, rfl, h⟩ | ⟨cX, n, f, g, rfl, rfl, h⟩
  · exact hp
  · have h1 : H[q]? = some (vp_cell cX (n, .inl f)) := hp
    show H[q]? = some (vp_cell cX (n, .inl g))
    rw [h1, vp_cell_i, vp_cell_i, hn_arrV (fun j hj => by rw [h j hj])]
  · have h1 : H[q]? = some (vp_cell cX (n, .inr (.inr (.inr (.inr f))))) := hp
    show H[q]? = some (vp_cell cX (n, .inr (.inr (.inr (.inr g)))))
    rw [h1, vp_cell_q, vp_cell_q, hn_arrV (fun j hj => by rw [h j hj])]
theorem hn_ia {cX : ClassId} {n : Nat} {f g : Nat → Int32} (h : ∀ j, j < n → f j = g j) : hn_same (.inl (cX, n, .inl f)) (.inl (cX, n, .inl g)) := Or.inr (Or.inl ⟨cX, n, f, g, rfl, rfl, h⟩)
theorem hn_qa {cX : ClassId} {n : Nat} {f g : Nat → Option Nat} (h : ∀ j, j < n → f j = g j) : hn_same (.inl (cX, n, .inr (.inr (.inr (.inr f))))) (.inl (cX, n, .inr (.inr (.inr (.inr g))))) := Or.inr (Or.inr ⟨cX, n, f, g, rfl, rfl, h⟩)
theorem hn_toP {D : va_G} {H : Heap} {cI cA : ClassId} {ad : Nat → Nat} {o : Nat} {w : hg_W} {W1 : va_W} (h : ∀ k, k < hg_N o → ∃ e, W1[k]? = some (ad k, e) ∧ hn_same e (hg_CE cI cA ad o w k)) (hP : va_P D vwCl W1 H) : va_P D vwCl (hg_CW cI cA ad o w) H := by
  intro k q hk
  obtain ⟨h1, rfl⟩ := hg_CW_of hk
  obtain ⟨e, h2, h3⟩ := h k h1
  exact h3.at (hP k _ h2)
theorem hn_toD {A : Nat → Prop} {cI cA : ClassId} {ad : Nat → Nat} {o : Nat} {w : hg_W} {W1 : va_W} (h : ∀ k, k < hg_N o → ∃ e, W1[k]? = some (ad k, e) ∧ hn_same e (hg_CE cI cA ad o w k)) (hD : va_D A W1) : va_D A (hg_CW cI cA ad o w) := by
  refine ⟨fun i j x y hi hj hxy => ?_, fun k q hk => ?_⟩
  · obtain ⟨h1, rfl⟩ := hg_CW_of hi
    obtain ⟨h2, rfl⟩ := hg_CW_of hj
    obtain ⟨e1, h3, -⟩ := h i h1
    obtain ⟨e2, h4, -⟩ := h j h2
    exact hD.1 i j _ _ h3 h4 hxy
  · obtain ⟨h1, rfl⟩ := hg_CW_of hk
    obtain ⟨e1, h3, -⟩ := h k h1
    exact hD.2 k (ad k, e1) h3
section HNT
variable {p : Program} {l : Launch} {e : Env} {R : Room} {s : State} {m : MethodId} {args : Array Value} {below : List Frame} {meth : Method} {c : Code} {D : va_G} {cI cA : ClassId} {ad ad' : Nat → Nat} {o o' : Nat} {A : Nat → Prop} {Q : State → Prop} {nL : Nat} {W1 W2 Y : va_W} {nc ns : Nat} {lv : List (Nat × Value)} {pc : Nat} {st : List Value} {cc : ByteArray} {own : String} {ws : List Cond} {w : hg_W}
theorem hn_conv (h : ∀ k, k < hg_N o → ∃ e, W1[k]? = some (ad k, e) ∧ hn_same e (hg_CE cI cA ad o w k)) (k : hn_At p l e R s m args below meth c D A Q nL (hg_CW cI cA ad o w ++ []) nc ns lv pc st) : hn_At p l e R s m args below meth c D A Q nL W1 nc ns lv pc st := by
  intro H locs ls g hl
  rw [List.append_nil] at k
  exact k H locs ls ⟨hn_toP h g.1, hn_toD h g.2.1, g.2.2⟩ hl
theorem hn_recv {H : Heap} {s : State} {w : hg_W} {a ci N : Nat} {C : String} {T : u_T} (hK : va_K D vwCl (hg_tys cI cA) s) (hP : va_P D vwCl (hg_CW cI cA ad' o' w ++ Y) H) (ha : a < hg_N o') (hk : hg_kd o' a = ci) (hk6 : ci < 6) (hcl : vwCl[ci]? = some (C, T, N)) : ∃ cellB : Cell, H[ad' a]? = some cellB ∧ cellB.vm.isStatics = false ∧ s.vm.findClass C = some cellB.cls := by
  have hg : (hg_CW cI cA ad' o' w ++ Y)[a]? = some (ad' a, hg_CE cI cA ad' o' w a) := by
    rw [List.getElem?_append_left (by rw [hn_CWl]; exact ha)]
    exact hg_CW_get ha
  have h6 : hg_kd o' a = 0 ∨ hg_kd o' a = 1 ∨ hg_kd o' a = 2 ∨ hg_kd o' a = 3 ∨ hg_kd o' a = 4 ∨ hg_kd o' a = 5 := by omega
  rcases h6 with h6 | h6 | h6 | h6 | h6 | h6
  · exact va_recv (q := (C, T, N)) (ci := 0) (q0 := a) (fs := hg_f0 ad' w a) hK hP (by rw [← hcl, ← hk, h6]) (by rw [hg, hg_CE0 h6])
  · exact va_recv (q := (C, T, N)) (ci := 1) (q0 := a) (fs := hg_f1 ad' w a) hK hP (by rw [← hcl, ← hk, h6]) (by rw [hg, hg_CE1 h6])
  · exact va_recv (q := (C, T, N)) (ci := 2) (q0 := a) (fs := hg_f2 ad' w a) hK hP (by rw [← hcl, ← hk, h6]) (by rw [hg, hg_CE2 h6])
  · exact va_recv (q := (C, T, N)) (ci := 3) (q0 := a) (fs := hg_f3 ad' w a) hK hP (by rw [← hcl, ← hk, h6]) (by rw [hg, hg_CE3 h6])
  · exact va_recv (q := (C, T, N)) (ci := 4) (q0 := a) (fs := hg_f4 ad' w a) hK hP (by rw [← hcl, ← hk, h6]) (by rw [hg, hg_CE4 h6])
  · exact va_recv (q := (C, T, N)) (ci := 5) (q0 := a) (fs := hg_f5 ad' w a) hK hP (by rw [← hcl, ← hk, h6]) (by rw [hg, hg_CE5 h6])
theorem hn_calli (B : hg_B p s m args meth c cc own ws nL D cI cA ad o A) (hE' : o' = 0 → hg_ex ad' A s s.heap) {nY : Nat} (hY : Y.length = nY) (hnd : va_nd ((List.range nY).map (fun i => hg_N o' + i)) = true) (hdis : ∀ i ∈ (List.range nY).map (fun i => hg_N o' + i), i ∉ List.range (hg_N o')) {idx n maxL : Nat} {y : MethodName} {bytes : ByteArray} {ret : Option FieldType} {ws2 ws2' : List Cond} {rm : Room} {As st0 : List Value} {w1 : hg_W} {r : Int} {a ci N : Nat} {C : String} {T : u_T} (d : decode cc pc = .ok (.invokevirtual idx, 3)) (hM : hg_Mi l y ws2 rm D cI cA ad' o' w (.ref (ad' a) :: As) w1 r) (hG : GoodIn ws (wsV own idx C y ws2)) (hw : ws2 = Cond.code y bytes maxL ret :: ws2') (hrm : rm.cells = 0 ∧ rm.slots = 0) (hd : y.cls = C ∧ y.cls ≠ "java/lang/invoke/MethodHandle" ∧ y.cls ≠ "java/lang/invoke/VarHandle" ∧ (parseMethodDescriptor y.desc).map (fun d => d.parameters.length) = some n) (hR : rm.frames + 1 ≤ R.frames ∧ 8 + (maxL + 11) + rm.locals ≤ R.locals) (hcnt : nc ≤ R.cells ∧ ns ≤ R.slots) (ha : a < hg_N o') (hk : hg_kd o' a = ci) (hk6 : ci < 6) (hcl : vwCl[ci]? = some (C, T, N)) (hn : As.length = n) (hst : st0 = As.reverse ++ .ref (ad' a) :: st) (hcat : (st.map fun v => v.category).sum ≤ 8) (k : hn_At p l e R s m args below meth c D A Q nL (Y ++ hg_CW cI cA ad' o' w1) nc ns lv (pc + 3) (.int (hg_I r) :: st)) : hn_At p l e R s m args below meth c D A Q nL (hg_CW cI cA ad' o' w ++ Y) nc ns lv pc st0 := by
  obtain ⟨hx, hb, hml, hown, hts, hlk, hA, hK, hE⟩ := B
  intro H locs ls g hl
  have hC := hn_mapL (Wa := hg_CW cI cA ad' o' w) (Wb := Y) hn_CWl
  have hR0 := hn_mapR (Wa := hg_CW cI cA ad' o' w) (Wb := Y) hn_CWl hY
  have hFc := va_free (wc := hg_CW cI cA ad' o' w) g.2.1 g.2.2 hA (List.range (hg_N o')) hC
  have hPc : va_P D vwCl (hg_CW cI cA ad' o' w) H := fun i q hi => g.1 i q (by rw [List.getElem?_append_left (List.getElem?_eq_some_iff.mp hi).1]; exact hi)
  have hDc : va_D A (hg_CW cI cA ad' o' w) := ⟨fun i j x y hi hj hxy => g.2.1.1 i j x y (by rw [List.getElem?_append_left (List.getElem?_eq_some_iff.mp hi).1]; exact hi) (by rw [List.getElem?_append_left (List.getElem?_eq_some_iff.mp hj).1]; exact hj) hxy, fun i q hi => g.2.1.2 i q (by rw [List.getElem?_append_left (List.getElem?_eq_some_iff.mp hi).1]; exact hi)⟩
  refine va_calli (va_runV (As := As) (rest := st) ⟨hx, hb, hml, hown, hts⟩ (hM H.size) (cwV n hts hG hw hrm.1 hrm.2 hd hR) ⟨hg_blind, hn_recv hK g.1 ha hk hk6 hcl, fun U hU hW => ⟨rfl, by rw [hU], by rw [hU]; exact hPc, va_K.moved hW.alike hK, hDc.weaken (fun _ _ _ _ => trivial), fun ho => hg_ex.call (hE' ho) g.2.2 hFc hU hW⟩⟩ rfl hn hl.1 hst (lv_room hcat) d hcnt) g.2.2 (fun q _ h => hFc q h) hFc ?_
  intro r1 u t H1 locs1 ht hvm hpost hB hz1 hk1 hS
  obtain ⟨hP1, hK1, hD1⟩ := hB
  rw [ht] at hP1
  have hpost2 : r1 = hg_I r := hpost
  subst hpost2
  obtain ⟨hP, hD⟩ := va_join (wr := Y) (w1 := hg_CW cI cA ad' o' w1) g.1 g.2.1 (List.range (hg_N o')) _ hC hR0 hnd hdis hk1 hFc hP1 hD1
  exact k _ _ _ ⟨hP, hD, hS⟩ hl
theorem hn_calll (B : hg_B p s m args meth c cc own ws nL D cI cA ad o A) (hE' : o' = 0 → hg_ex ad' A s s.heap) {nY : Nat} (hY : Y.length = nY) (hnd : va_nd ((List.range nY).map (fun i => hg_N o' + i)) = true) (hdis : ∀ i ∈ (List.range nY).map (fun i => hg_N o' + i), i ∉ List.range (hg_N o')) {idx n maxL : Nat} {y : MethodName} {bytes : ByteArray} {ret : Option FieldType} {ws2 ws2' : List Cond} {rm : Room} {As st0 : List Value} {w1 : hg_W} {r : Int} {a ci N : Nat} {C : String} {T : u_T} (d : decode cc pc = .ok (.invokevirtual idx, 3)) (hM : hg_Ml l y ws2 rm D cI cA ad' o' w (.ref (ad' a) :: As) w1 r) (hG : GoodIn ws (wsV own idx C y ws2)) (hw : ws2 = Cond.code y bytes maxL ret :: ws2') (hrm : rm.cells = 0 ∧ rm.slots = 0) (hd : y.cls = C ∧ y.cls ≠ "java/lang/invoke/MethodHandle" ∧ y.cls ≠ "java/lang/invoke/VarHandle" ∧ (parseMethodDescriptor y.desc).map (fun d => d.parameters.length) = some n) (hR : rm.frames + 1 ≤ R.frames ∧ 8 + (maxL + 11) + rm.locals ≤ R.locals) (hcnt : nc ≤ R.cells ∧ ns ≤ R.slots) (ha : a < hg_N o') (hk : hg_kd o' a = ci) (hk6 : ci < 6) (hcl : vwCl[ci]? = some (C, T, N)) (hn : As.length = n) (hst : st0 = As.reverse ++ .ref (ad' a) :: st) (hcat : (st.map fun v => v.category).sum ≤ 8) (k : hn_At p l e R s m args below meth c D A Q nL (Y ++ hg_CW cI cA ad' o' w1) nc ns lv (pc + 3) (.long (hg_J r) :: st)) : hn_At p l e R s m args below meth c D A Q nL (hg_CW cI cA ad' o' w ++ Y) nc ns lv pc st0 := by
  obtain ⟨hx, hb, hml, hown, hts, hlk, hA, hK, hE⟩ := B
  intro H locs ls g hl
  have hC := hn_mapL (Wa := hg_CW cI cA ad' o' w) (Wb := Y) hn_CWl
  have hR0 := hn_mapR (Wa := hg_CW cI cA ad' o' w) (Wb := Y) hn_CWl hY
  have hFc := va_free (wc := hg_CW cI cA ad' o' w) g.2.1 g.2.2 hA (List.range (hg_N o')) hC
  have hPc : va_P D vwCl (hg_CW cI cA ad' o' w) H := fun i q hi => g.1 i q (by rw [List.getElem?_append_left (List.getElem?_eq_some_iff.mp hi).1]; exact hi)
  have hDc : va_D A (hg_CW cI cA ad' o' w) := ⟨fun i j x y hi hj hxy => g.2.1.1 i j x y (by rw [List.getElem?_append_left (List.getElem?_eq_some_iff.mp hi).1]; exact hi) (by rw [List.getElem?_append_left (List.getElem?_eq_some_iff.mp hj).1]; exact hj) hxy, fun i q hi => g.2.1.2 i q (by rw [List.getElem?_append_left (List.getElem?_eq_some_iff.mp hi).1]; exact hi)⟩
  refine va_calll (va_runV (As := As) (rest := st) ⟨hx, hb, hml, hown, hts⟩ (hM H.size) (cwV n hts hG hw hrm.1 hrm.2 hd hR) ⟨hg_blind, hn_recv hK g.1 ha hk hk6 hcl, fun U hU hW => ⟨rfl, by rw [hU], by rw [hU]; exact hPc, va_K.moved hW.alike hK, hDc.weaken (fun _ _ _ _ => trivial), fun ho => hg_ex.call (hE' ho) g.2.2 hFc hU hW⟩⟩ rfl hn hl.1 hst (lv_room hcat) d hcnt) g.2.2 (fun q _ h => hFc q h) hFc ?_
  intro r1 u t H1 locs1 ht hvm hpost hB hz1 hk1 hS
  obtain ⟨hP1, hK1, hD1⟩ := hB
  rw [ht] at hP1
  have hpost2 : r1 = hg_J r := hpost
  subst hpost2
  obtain ⟨hP, hD⟩ := va_join (wr := Y) (w1 := hg_CW cI cA ad' o' w1) g.1 g.2.1 (List.range (hg_N o')) _ hC hR0 hnd hdis hk1 hFc hP1 hD1
  exact k _ _ _ ⟨hP, hD, hS⟩ hl
end HNT
