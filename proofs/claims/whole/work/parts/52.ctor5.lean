/-! ===== the reference's constructor ===== -/
theorem hn_mapW {Wa : va_W} {n : Nat} (hA : Wa.length = n) : (List.range n).map (fun i => Wa[i]?) = Wa.map some := by
  have := hn_mapL (Wa := Wa) (Wb := []) hA
  rw [List.append_nil] at this
  exact this
section HNX5
variable {p : Program} {l : Launch} {e : Env} {R : Room} {s : State} {m : MethodId} {args : Array Value} {below : List Frame} {meth : Method} {c : Code} {D : va_G} {cI cA : ClassId} {ad : Nat → Nat} {o : Nat} {A : Nat → Prop} {Q : State → Prop} {nL : Nat} {W1 W2 : va_W} {nc ns : Nat} {lv : List (Nat × Value)} {pc : Nat} {st : List Value} {cc : ByteArray} {own : String} {ws : List Cond}
def hn_taX5_init_33 : List (Nat × Int) := [(0, 1), (1, 0), (2, 2), (3, 0), (4, 4), (5, 0), (6, 8), (7, 0), (8, 16), (9, 0), (10, 32), (11, 0)]
set_option maxHeartbeats 4000000 in
theorem hn_sgX5_init_33 (B : hg_B p s m args meth c cX5_init own ws nL D cI cA ad o A) {q : Nat} (k : hn_At p l e R s m args below meth c D A Q nL (W1 ++ [hn_ai cI q 12 (hn_upl hn_taX5_init_33 (fun _ => 0))]) nc ns lv 90 (.ref q :: st)) : hn_At p l e R s m args below meth c D A Q nL (W1 ++ [hn_ai cI q 12 (fun _ => 0)]) nc ns lv 33 (.ref q :: st) := by
  refine hn_el B 0 (by decide) (by decide) dX5_init_33 (Or.inl ⟨dX5_init_34, rfl⟩) (Or.inl ⟨dX5_init_35, rfl⟩) dX5_init_36 ?_
  refine hn_el B 1 (by decide) (by decide) dX5_init_37 (Or.inl ⟨dX5_init_38, rfl⟩) (Or.inl ⟨dX5_init_39, rfl⟩) dX5_init_40 ?_
  refine hn_el B 2 (by decide) (by decide) dX5_init_41 (Or.inl ⟨dX5_init_42, rfl⟩) (Or.inl ⟨dX5_init_43, rfl⟩) dX5_init_44 ?_
  refine hn_el B 3 (by decide) (by decide) dX5_init_45 (Or.inl ⟨dX5_init_46, rfl⟩) (Or.inl ⟨dX5_init_47, rfl⟩) dX5_init_48 ?_
  refine hn_el B 4 (by decide) (by decide) dX5_init_49 (Or.inl ⟨dX5_init_50, rfl⟩) (Or.inl ⟨dX5_init_51, rfl⟩) dX5_init_52 ?_
  refine hn_el B 5 (by decide) (by decide) dX5_init_53 (Or.inl ⟨dX5_init_54, rfl⟩) (Or.inl ⟨dX5_init_55, rfl⟩) dX5_init_56 ?_
  refine hn_el B 6 (by decide) (by decide) dX5_init_57 (Or.inr ⟨dX5_init_58, rfl, rfl⟩) (Or.inr ⟨dX5_init_60, rfl, rfl⟩) dX5_init_62 ?_
  refine hn_el B 7 (by decide) (by decide) dX5_init_63 (Or.inr ⟨dX5_init_64, rfl, rfl⟩) (Or.inl ⟨dX5_init_66, rfl⟩) dX5_init_67 ?_
  refine hn_el B 8 (by decide) (by decide) dX5_init_68 (Or.inr ⟨dX5_init_69, rfl, rfl⟩) (Or.inr ⟨dX5_init_71, rfl, rfl⟩) dX5_init_73 ?_
  refine hn_el B 9 (by decide) (by decide) dX5_init_74 (Or.inr ⟨dX5_init_75, rfl, rfl⟩) (Or.inl ⟨dX5_init_77, rfl⟩) dX5_init_78 ?_
  refine hn_el B 10 (by decide) (by decide) dX5_init_79 (Or.inr ⟨dX5_init_80, rfl, rfl⟩) (Or.inr ⟨dX5_init_82, rfl, rfl⟩) dX5_init_84 ?_
  refine hn_el B 11 (by decide) (by decide) dX5_init_85 (Or.inr ⟨dX5_init_86, rfl, rfl⟩) (Or.inl ⟨dX5_init_88, rfl⟩) dX5_init_89 ?_
  exact k
def hn_taX5_init_138 : List (Nat × Int) := [(0, (-1)), (1, (-1)), (2, (-1)), (3, (-1))]
set_option maxHeartbeats 4000000 in
theorem hn_sgX5_init_138 (B : hg_B p s m args meth c cX5_init own ws nL D cI cA ad o A) {q : Nat} (k : hn_At p l e R s m args below meth c D A Q nL (W1 ++ [hn_ai cI q 4 (hn_upl hn_taX5_init_138 (fun _ => 0))]) nc ns lv 154 (.ref q :: st)) : hn_At p l e R s m args below meth c D A Q nL (W1 ++ [hn_ai cI q 4 (fun _ => 0)]) nc ns lv 138 (.ref q :: st) := by
  refine hn_el B 0 (by decide) (by decide) dX5_init_138 (Or.inl ⟨dX5_init_139, rfl⟩) (Or.inl ⟨dX5_init_140, rfl⟩) dX5_init_141 ?_
  refine hn_el B 1 (by decide) (by decide) dX5_init_142 (Or.inl ⟨dX5_init_143, rfl⟩) (Or.inl ⟨dX5_init_144, rfl⟩) dX5_init_145 ?_
  refine hn_el B 2 (by decide) (by decide) dX5_init_146 (Or.inl ⟨dX5_init_147, rfl⟩) (Or.inl ⟨dX5_init_148, rfl⟩) dX5_init_149 ?_
  refine hn_el B 3 (by decide) (by decide) dX5_init_150 (Or.inl ⟨dX5_init_151, rfl⟩) (Or.inl ⟨dX5_init_152, rfl⟩) dX5_init_153 ?_
  exact k
def hn_taX5_init_178 : List (Nat × Int) := [(0, 116), (1, 97), (2, 107), (3, 101), (4, 115), (5, 32), (6, 112), (7, 114), (8, 105), (9, 100), (10, 101), (11, 32), (12, 59), (13, 32), (14, 115), (15, 111), (16, 117), (17, 110), (18, 100), (19, 115), (20, 32), (21, 119), (22, 111), (23, 114), (24, 116), (25, 104), (26, 32), (27, 59), (28, 32), (29, 99), (30, 111), (31, 115), (32, 116), (33, 115), (34, 32), (35, 49), (36, 32), (37, 59)]
set_option maxHeartbeats 4000000 in
theorem hn_sgX5_init_178 (B : hg_B p s m args meth c cX5_init own ws nL D cI cA ad o A) {q : Nat} (k : hn_At p l e R s m args below meth c D A Q nL (W1 ++ [hn_ai cI q 38 (hn_upl hn_taX5_init_178 (fun _ => 0))]) nc ns lv 400 (.ref q :: st)) : hn_At p l e R s m args below meth c D A Q nL (W1 ++ [hn_ai cI q 38 (fun _ => 0)]) nc ns lv 178 (.ref q :: st) := by
  refine hn_el B 0 (by decide) (by decide) dX5_init_178 (Or.inl ⟨dX5_init_179, rfl⟩) (Or.inr ⟨dX5_init_180, rfl, rfl⟩) dX5_init_182 ?_
  refine hn_el B 1 (by decide) (by decide) dX5_init_183 (Or.inl ⟨dX5_init_184, rfl⟩) (Or.inr ⟨dX5_init_185, rfl, rfl⟩) dX5_init_187 ?_
  refine hn_el B 2 (by decide) (by decide) dX5_init_188 (Or.inl ⟨dX5_init_189, rfl⟩) (Or.inr ⟨dX5_init_190, rfl, rfl⟩) dX5_init_192 ?_
  refine hn_el B 3 (by decide) (by decide) dX5_init_193 (Or.inl ⟨dX5_init_194, rfl⟩) (Or.inr ⟨dX5_init_195, rfl, rfl⟩) dX5_init_197 ?_
  refine hn_el B 4 (by decide) (by decide) dX5_init_198 (Or.inl ⟨dX5_init_199, rfl⟩) (Or.inr ⟨dX5_init_200, rfl, rfl⟩) dX5_init_202 ?_
  refine hn_el B 5 (by decide) (by decide) dX5_init_203 (Or.inl ⟨dX5_init_204, rfl⟩) (Or.inr ⟨dX5_init_205, rfl, rfl⟩) dX5_init_207 ?_
  refine hn_el B 6 (by decide) (by decide) dX5_init_208 (Or.inr ⟨dX5_init_209, rfl, rfl⟩) (Or.inr ⟨dX5_init_211, rfl, rfl⟩) dX5_init_213 ?_
  refine hn_el B 7 (by decide) (by decide) dX5_init_214 (Or.inr ⟨dX5_init_215, rfl, rfl⟩) (Or.inr ⟨dX5_init_217, rfl, rfl⟩) dX5_init_219 ?_
  refine hn_el B 8 (by decide) (by decide) dX5_init_220 (Or.inr ⟨dX5_init_221, rfl, rfl⟩) (Or.inr ⟨dX5_init_223, rfl, rfl⟩) dX5_init_225 ?_
  refine hn_el B 9 (by decide) (by decide) dX5_init_226 (Or.inr ⟨dX5_init_227, rfl, rfl⟩) (Or.inr ⟨dX5_init_229, rfl, rfl⟩) dX5_init_231 ?_
  refine hn_el B 10 (by decide) (by decide) dX5_init_232 (Or.inr ⟨dX5_init_233, rfl, rfl⟩) (Or.inr ⟨dX5_init_235, rfl, rfl⟩) dX5_init_237 ?_
  refine hn_el B 11 (by decide) (by decide) dX5_init_238 (Or.inr ⟨dX5_init_239, rfl, rfl⟩) (Or.inr ⟨dX5_init_241, rfl, rfl⟩) dX5_init_243 ?_
  refine hn_el B 12 (by decide) (by decide) dX5_init_244 (Or.inr ⟨dX5_init_245, rfl, rfl⟩) (Or.inr ⟨dX5_init_247, rfl, rfl⟩) dX5_init_249 ?_
  refine hn_el B 13 (by decide) (by decide) dX5_init_250 (Or.inr ⟨dX5_init_251, rfl, rfl⟩) (Or.inr ⟨dX5_init_253, rfl, rfl⟩) dX5_init_255 ?_
  refine hn_el B 14 (by decide) (by decide) dX5_init_256 (Or.inr ⟨dX5_init_257, rfl, rfl⟩) (Or.inr ⟨dX5_init_259, rfl, rfl⟩) dX5_init_261 ?_
  refine hn_el B 15 (by decide) (by decide) dX5_init_262 (Or.inr ⟨dX5_init_263, rfl, rfl⟩) (Or.inr ⟨dX5_init_265, rfl, rfl⟩) dX5_init_267 ?_
  refine hn_el B 16 (by decide) (by decide) dX5_init_268 (Or.inr ⟨dX5_init_269, rfl, rfl⟩) (Or.inr ⟨dX5_init_271, rfl, rfl⟩) dX5_init_273 ?_
  refine hn_el B 17 (by decide) (by decide) dX5_init_274 (Or.inr ⟨dX5_init_275, rfl, rfl⟩) (Or.inr ⟨dX5_init_277, rfl, rfl⟩) dX5_init_279 ?_
  refine hn_el B 18 (by decide) (by decide) dX5_init_280 (Or.inr ⟨dX5_init_281, rfl, rfl⟩) (Or.inr ⟨dX5_init_283, rfl, rfl⟩) dX5_init_285 ?_
  refine hn_el B 19 (by decide) (by decide) dX5_init_286 (Or.inr ⟨dX5_init_287, rfl, rfl⟩) (Or.inr ⟨dX5_init_289, rfl, rfl⟩) dX5_init_291 ?_
  refine hn_el B 20 (by decide) (by decide) dX5_init_292 (Or.inr ⟨dX5_init_293, rfl, rfl⟩) (Or.inr ⟨dX5_init_295, rfl, rfl⟩) dX5_init_297 ?_
  refine hn_el B 21 (by decide) (by decide) dX5_init_298 (Or.inr ⟨dX5_init_299, rfl, rfl⟩) (Or.inr ⟨dX5_init_301, rfl, rfl⟩) dX5_init_303 ?_
  refine hn_el B 22 (by decide) (by decide) dX5_init_304 (Or.inr ⟨dX5_init_305, rfl, rfl⟩) (Or.inr ⟨dX5_init_307, rfl, rfl⟩) dX5_init_309 ?_
  refine hn_el B 23 (by decide) (by decide) dX5_init_310 (Or.inr ⟨dX5_init_311, rfl, rfl⟩) (Or.inr ⟨dX5_init_313, rfl, rfl⟩) dX5_init_315 ?_
  refine hn_el B 24 (by decide) (by decide) dX5_init_316 (Or.inr ⟨dX5_init_317, rfl, rfl⟩) (Or.inr ⟨dX5_init_319, rfl, rfl⟩) dX5_init_321 ?_
  refine hn_el B 25 (by decide) (by decide) dX5_init_322 (Or.inr ⟨dX5_init_323, rfl, rfl⟩) (Or.inr ⟨dX5_init_325, rfl, rfl⟩) dX5_init_327 ?_
  refine hn_el B 26 (by decide) (by decide) dX5_init_328 (Or.inr ⟨dX5_init_329, rfl, rfl⟩) (Or.inr ⟨dX5_init_331, rfl, rfl⟩) dX5_init_333 ?_
  refine hn_el B 27 (by decide) (by decide) dX5_init_334 (Or.inr ⟨dX5_init_335, rfl, rfl⟩) (Or.inr ⟨dX5_init_337, rfl, rfl⟩) dX5_init_339 ?_
  refine hn_el B 28 (by decide) (by decide) dX5_init_340 (Or.inr ⟨dX5_init_341, rfl, rfl⟩) (Or.inr ⟨dX5_init_343, rfl, rfl⟩) dX5_init_345 ?_
  refine hn_el B 29 (by decide) (by decide) dX5_init_346 (Or.inr ⟨dX5_init_347, rfl, rfl⟩) (Or.inr ⟨dX5_init_349, rfl, rfl⟩) dX5_init_351 ?_
  refine hn_el B 30 (by decide) (by decide) dX5_init_352 (Or.inr ⟨dX5_init_353, rfl, rfl⟩) (Or.inr ⟨dX5_init_355, rfl, rfl⟩) dX5_init_357 ?_
  refine hn_el B 31 (by decide) (by decide) dX5_init_358 (Or.inr ⟨dX5_init_359, rfl, rfl⟩) (Or.inr ⟨dX5_init_361, rfl, rfl⟩) dX5_init_363 ?_
  refine hn_el B 32 (by decide) (by decide) dX5_init_364 (Or.inr ⟨dX5_init_365, rfl, rfl⟩) (Or.inr ⟨dX5_init_367, rfl, rfl⟩) dX5_init_369 ?_
  refine hn_el B 33 (by decide) (by decide) dX5_init_370 (Or.inr ⟨dX5_init_371, rfl, rfl⟩) (Or.inr ⟨dX5_init_373, rfl, rfl⟩) dX5_init_375 ?_
  refine hn_el B 34 (by decide) (by decide) dX5_init_376 (Or.inr ⟨dX5_init_377, rfl, rfl⟩) (Or.inr ⟨dX5_init_379, rfl, rfl⟩) dX5_init_381 ?_
  refine hn_el B 35 (by decide) (by decide) dX5_init_382 (Or.inr ⟨dX5_init_383, rfl, rfl⟩) (Or.inr ⟨dX5_init_385, rfl, rfl⟩) dX5_init_387 ?_
  refine hn_el B 36 (by decide) (by decide) dX5_init_388 (Or.inr ⟨dX5_init_389, rfl, rfl⟩) (Or.inr ⟨dX5_init_391, rfl, rfl⟩) dX5_init_393 ?_
  refine hn_el B 37 (by decide) (by decide) dX5_init_394 (Or.inr ⟨dX5_init_395, rfl, rfl⟩) (Or.inr ⟨dX5_init_397, rfl, rfl⟩) dX5_init_399 ?_
  exact k
def hn_taX5_init_408 : List (Nat × Int) := [(0, 116), (1, 97), (2, 107), (3, 101), (4, 115), (5, 32), (6, 32), (7, 32), (8, 115), (9, 111), (10, 117), (11, 110), (12, 100), (13, 115), (14, 32), (15, 32), (16, 99), (17, 111), (18, 115), (19, 116), (20, 115), (21, 32), (22, 32), (23, 32), (24, 112), (25, 114), (26, 105), (27, 100), (28, 101), (29, 32), (30, 32), (31, 32), (32, 119), (33, 111), (34, 114), (35, 116), (36, 104), (37, 32), (38, 32), (39, 32), (40, 99), (41, 111), (42, 105), (43, 110), (44, 115), (45, 32), (46, 32), (47, 32), (48, 112), (49, 117), (50, 114), (51, 115), (52, 101), (53, 32), (54, 32), (55, 32), (56, 116), (57, 117), (58, 114), (59, 110), (60, 115), (61, 32), (62, 32), (63, 32), (64, 109), (65, 111), (66, 114), (67, 101), (68, 32), (69, 32), (70, 32), (71, 32), (72, 111), (73, 114), (74, 32), (75, 32), (76, 32), (77, 32), (78, 32), (79, 32), (80, 97), (81, 110), (82, 100), (83, 32), (84, 32), (85, 32), (86, 32), (87, 32), (88, 110), (89, 111), (90, 116), (91, 32), (92, 32), (93, 32), (94, 32), (95, 32)]
set_option maxHeartbeats 4000000 in
theorem hn_sgX5_init_408 (B : hg_B p s m args meth c cX5_init own ws nL D cI cA ad o A) {q : Nat} (k : hn_At p l e R s m args below meth c D A Q nL (W1 ++ [hn_ai cI q 96 (hn_upl hn_taX5_init_408 (fun _ => 0))]) nc ns lv 978 (.ref q :: st)) : hn_At p l e R s m args below meth c D A Q nL (W1 ++ [hn_ai cI q 96 (fun _ => 0)]) nc ns lv 408 (.ref q :: st) := by
  refine hn_el B 0 (by decide) (by decide) dX5_init_408 (Or.inl ⟨dX5_init_409, rfl⟩) (Or.inr ⟨dX5_init_410, rfl, rfl⟩) dX5_init_412 ?_
  refine hn_el B 1 (by decide) (by decide) dX5_init_413 (Or.inl ⟨dX5_init_414, rfl⟩) (Or.inr ⟨dX5_init_415, rfl, rfl⟩) dX5_init_417 ?_
  refine hn_el B 2 (by decide) (by decide) dX5_init_418 (Or.inl ⟨dX5_init_419, rfl⟩) (Or.inr ⟨dX5_init_420, rfl, rfl⟩) dX5_init_422 ?_
  refine hn_el B 3 (by decide) (by decide) dX5_init_423 (Or.inl ⟨dX5_init_424, rfl⟩) (Or.inr ⟨dX5_init_425, rfl, rfl⟩) dX5_init_427 ?_
  refine hn_el B 4 (by decide) (by decide) dX5_init_428 (Or.inl ⟨dX5_init_429, rfl⟩) (Or.inr ⟨dX5_init_430, rfl, rfl⟩) dX5_init_432 ?_
  refine hn_el B 5 (by decide) (by decide) dX5_init_433 (Or.inl ⟨dX5_init_434, rfl⟩) (Or.inr ⟨dX5_init_435, rfl, rfl⟩) dX5_init_437 ?_
  refine hn_el B 6 (by decide) (by decide) dX5_init_438 (Or.inr ⟨dX5_init_439, rfl, rfl⟩) (Or.inr ⟨dX5_init_441, rfl, rfl⟩) dX5_init_443 ?_
  refine hn_el B 7 (by decide) (by decide) dX5_init_444 (Or.inr ⟨dX5_init_445, rfl, rfl⟩) (Or.inr ⟨dX5_init_447, rfl, rfl⟩) dX5_init_449 ?_
  refine hn_el B 8 (by decide) (by decide) dX5_init_450 (Or.inr ⟨dX5_init_451, rfl, rfl⟩) (Or.inr ⟨dX5_init_453, rfl, rfl⟩) dX5_init_455 ?_
  refine hn_el B 9 (by decide) (by decide) dX5_init_456 (Or.inr ⟨dX5_init_457, rfl, rfl⟩) (Or.inr ⟨dX5_init_459, rfl, rfl⟩) dX5_init_461 ?_
  refine hn_el B 10 (by decide) (by decide) dX5_init_462 (Or.inr ⟨dX5_init_463, rfl, rfl⟩) (Or.inr ⟨dX5_init_465, rfl, rfl⟩) dX5_init_467 ?_
  refine hn_el B 11 (by decide) (by decide) dX5_init_468 (Or.inr ⟨dX5_init_469, rfl, rfl⟩) (Or.inr ⟨dX5_init_471, rfl, rfl⟩) dX5_init_473 ?_
  refine hn_el B 12 (by decide) (by decide) dX5_init_474 (Or.inr ⟨dX5_init_475, rfl, rfl⟩) (Or.inr ⟨dX5_init_477, rfl, rfl⟩) dX5_init_479 ?_
  refine hn_el B 13 (by decide) (by decide) dX5_init_480 (Or.inr ⟨dX5_init_481, rfl, rfl⟩) (Or.inr ⟨dX5_init_483, rfl, rfl⟩) dX5_init_485 ?_
  refine hn_el B 14 (by decide) (by decide) dX5_init_486 (Or.inr ⟨dX5_init_487, rfl, rfl⟩) (Or.inr ⟨dX5_init_489, rfl, rfl⟩) dX5_init_491 ?_
  refine hn_el B 15 (by decide) (by decide) dX5_init_492 (Or.inr ⟨dX5_init_493, rfl, rfl⟩) (Or.inr ⟨dX5_init_495, rfl, rfl⟩) dX5_init_497 ?_
  refine hn_el B 16 (by decide) (by decide) dX5_init_498 (Or.inr ⟨dX5_init_499, rfl, rfl⟩) (Or.inr ⟨dX5_init_501, rfl, rfl⟩) dX5_init_503 ?_
  refine hn_el B 17 (by decide) (by decide) dX5_init_504 (Or.inr ⟨dX5_init_505, rfl, rfl⟩) (Or.inr ⟨dX5_init_507, rfl, rfl⟩) dX5_init_509 ?_
  refine hn_el B 18 (by decide) (by decide) dX5_init_510 (Or.inr ⟨dX5_init_511, rfl, rfl⟩) (Or.inr ⟨dX5_init_513, rfl, rfl⟩) dX5_init_515 ?_
  refine hn_el B 19 (by decide) (by decide) dX5_init_516 (Or.inr ⟨dX5_init_517, rfl, rfl⟩) (Or.inr ⟨dX5_init_519, rfl, rfl⟩) dX5_init_521 ?_
  refine hn_el B 20 (by decide) (by decide) dX5_init_522 (Or.inr ⟨dX5_init_523, rfl, rfl⟩) (Or.inr ⟨dX5_init_525, rfl, rfl⟩) dX5_init_527 ?_
  refine hn_el B 21 (by decide) (by decide) dX5_init_528 (Or.inr ⟨dX5_init_529, rfl, rfl⟩) (Or.inr ⟨dX5_init_531, rfl, rfl⟩) dX5_init_533 ?_
  refine hn_el B 22 (by decide) (by decide) dX5_init_534 (Or.inr ⟨dX5_init_535, rfl, rfl⟩) (Or.inr ⟨dX5_init_537, rfl, rfl⟩) dX5_init_539 ?_
  refine hn_el B 23 (by decide) (by decide) dX5_init_540 (Or.inr ⟨dX5_init_541, rfl, rfl⟩) (Or.inr ⟨dX5_init_543, rfl, rfl⟩) dX5_init_545 ?_
  refine hn_el B 24 (by decide) (by decide) dX5_init_546 (Or.inr ⟨dX5_init_547, rfl, rfl⟩) (Or.inr ⟨dX5_init_549, rfl, rfl⟩) dX5_init_551 ?_
  refine hn_el B 25 (by decide) (by decide) dX5_init_552 (Or.inr ⟨dX5_init_553, rfl, rfl⟩) (Or.inr ⟨dX5_init_555, rfl, rfl⟩) dX5_init_557 ?_
  refine hn_el B 26 (by decide) (by decide) dX5_init_558 (Or.inr ⟨dX5_init_559, rfl, rfl⟩) (Or.inr ⟨dX5_init_561, rfl, rfl⟩) dX5_init_563 ?_
  refine hn_el B 27 (by decide) (by decide) dX5_init_564 (Or.inr ⟨dX5_init_565, rfl, rfl⟩) (Or.inr ⟨dX5_init_567, rfl, rfl⟩) dX5_init_569 ?_
  refine hn_el B 28 (by decide) (by decide) dX5_init_570 (Or.inr ⟨dX5_init_571, rfl, rfl⟩) (Or.inr ⟨dX5_init_573, rfl, rfl⟩) dX5_init_575 ?_
  refine hn_el B 29 (by decide) (by decide) dX5_init_576 (Or.inr ⟨dX5_init_577, rfl, rfl⟩) (Or.inr ⟨dX5_init_579, rfl, rfl⟩) dX5_init_581 ?_
  refine hn_el B 30 (by decide) (by decide) dX5_init_582 (Or.inr ⟨dX5_init_583, rfl, rfl⟩) (Or.inr ⟨dX5_init_585, rfl, rfl⟩) dX5_init_587 ?_
  refine hn_el B 31 (by decide) (by decide) dX5_init_588 (Or.inr ⟨dX5_init_589, rfl, rfl⟩) (Or.inr ⟨dX5_init_591, rfl, rfl⟩) dX5_init_593 ?_
  refine hn_el B 32 (by decide) (by decide) dX5_init_594 (Or.inr ⟨dX5_init_595, rfl, rfl⟩) (Or.inr ⟨dX5_init_597, rfl, rfl⟩) dX5_init_599 ?_
  refine hn_el B 33 (by decide) (by decide) dX5_init_600 (Or.inr ⟨dX5_init_601, rfl, rfl⟩) (Or.inr ⟨dX5_init_603, rfl, rfl⟩) dX5_init_605 ?_
  refine hn_el B 34 (by decide) (by decide) dX5_init_606 (Or.inr ⟨dX5_init_607, rfl, rfl⟩) (Or.inr ⟨dX5_init_609, rfl, rfl⟩) dX5_init_611 ?_
  refine hn_el B 35 (by decide) (by decide) dX5_init_612 (Or.inr ⟨dX5_init_613, rfl, rfl⟩) (Or.inr ⟨dX5_init_615, rfl, rfl⟩) dX5_init_617 ?_
  refine hn_el B 36 (by decide) (by decide) dX5_init_618 (Or.inr ⟨dX5_init_619, rfl, rfl⟩) (Or.inr ⟨dX5_init_621, rfl, rfl⟩) dX5_init_623 ?_
  refine hn_el B 37 (by decide) (by decide) dX5_init_624 (Or.inr ⟨dX5_init_625, rfl, rfl⟩) (Or.inr ⟨dX5_init_627, rfl, rfl⟩) dX5_init_629 ?_
  refine hn_el B 38 (by decide) (by decide) dX5_init_630 (Or.inr ⟨dX5_init_631, rfl, rfl⟩) (Or.inr ⟨dX5_init_633, rfl, rfl⟩) dX5_init_635 ?_
  refine hn_el B 39 (by decide) (by decide) dX5_init_636 (Or.inr ⟨dX5_init_637, rfl, rfl⟩) (Or.inr ⟨dX5_init_639, rfl, rfl⟩) dX5_init_641 ?_
  refine hn_el B 40 (by decide) (by decide) dX5_init_642 (Or.inr ⟨dX5_init_643, rfl, rfl⟩) (Or.inr ⟨dX5_init_645, rfl, rfl⟩) dX5_init_647 ?_
  refine hn_el B 41 (by decide) (by decide) dX5_init_648 (Or.inr ⟨dX5_init_649, rfl, rfl⟩) (Or.inr ⟨dX5_init_651, rfl, rfl⟩) dX5_init_653 ?_
  refine hn_el B 42 (by decide) (by decide) dX5_init_654 (Or.inr ⟨dX5_init_655, rfl, rfl⟩) (Or.inr ⟨dX5_init_657, rfl, rfl⟩) dX5_init_659 ?_
  refine hn_el B 43 (by decide) (by decide) dX5_init_660 (Or.inr ⟨dX5_init_661, rfl, rfl⟩) (Or.inr ⟨dX5_init_663, rfl, rfl⟩) dX5_init_665 ?_
  refine hn_el B 44 (by decide) (by decide) dX5_init_666 (Or.inr ⟨dX5_init_667, rfl, rfl⟩) (Or.inr ⟨dX5_init_669, rfl, rfl⟩) dX5_init_671 ?_
  refine hn_el B 45 (by decide) (by decide) dX5_init_672 (Or.inr ⟨dX5_init_673, rfl, rfl⟩) (Or.inr ⟨dX5_init_675, rfl, rfl⟩) dX5_init_677 ?_
  refine hn_el B 46 (by decide) (by decide) dX5_init_678 (Or.inr ⟨dX5_init_679, rfl, rfl⟩) (Or.inr ⟨dX5_init_681, rfl, rfl⟩) dX5_init_683 ?_
  refine hn_el B 47 (by decide) (by decide) dX5_init_684 (Or.inr ⟨dX5_init_685, rfl, rfl⟩) (Or.inr ⟨dX5_init_687, rfl, rfl⟩) dX5_init_689 ?_
  refine hn_el B 48 (by decide) (by decide) dX5_init_690 (Or.inr ⟨dX5_init_691, rfl, rfl⟩) (Or.inr ⟨dX5_init_693, rfl, rfl⟩) dX5_init_695 ?_
  refine hn_el B 49 (by decide) (by decide) dX5_init_696 (Or.inr ⟨dX5_init_697, rfl, rfl⟩) (Or.inr ⟨dX5_init_699, rfl, rfl⟩) dX5_init_701 ?_
  refine hn_el B 50 (by decide) (by decide) dX5_init_702 (Or.inr ⟨dX5_init_703, rfl, rfl⟩) (Or.inr ⟨dX5_init_705, rfl, rfl⟩) dX5_init_707 ?_
  refine hn_el B 51 (by decide) (by decide) dX5_init_708 (Or.inr ⟨dX5_init_709, rfl, rfl⟩) (Or.inr ⟨dX5_init_711, rfl, rfl⟩) dX5_init_713 ?_
  refine hn_el B 52 (by decide) (by decide) dX5_init_714 (Or.inr ⟨dX5_init_715, rfl, rfl⟩) (Or.inr ⟨dX5_init_717, rfl, rfl⟩) dX5_init_719 ?_
  refine hn_el B 53 (by decide) (by decide) dX5_init_720 (Or.inr ⟨dX5_init_721, rfl, rfl⟩) (Or.inr ⟨dX5_init_723, rfl, rfl⟩) dX5_init_725 ?_
  refine hn_el B 54 (by decide) (by decide) dX5_init_726 (Or.inr ⟨dX5_init_727, rfl, rfl⟩) (Or.inr ⟨dX5_init_729, rfl, rfl⟩) dX5_init_731 ?_
  refine hn_el B 55 (by decide) (by decide) dX5_init_732 (Or.inr ⟨dX5_init_733, rfl, rfl⟩) (Or.inr ⟨dX5_init_735, rfl, rfl⟩) dX5_init_737 ?_
  refine hn_el B 56 (by decide) (by decide) dX5_init_738 (Or.inr ⟨dX5_init_739, rfl, rfl⟩) (Or.inr ⟨dX5_init_741, rfl, rfl⟩) dX5_init_743 ?_
  refine hn_el B 57 (by decide) (by decide) dX5_init_744 (Or.inr ⟨dX5_init_745, rfl, rfl⟩) (Or.inr ⟨dX5_init_747, rfl, rfl⟩) dX5_init_749 ?_
  refine hn_el B 58 (by decide) (by decide) dX5_init_750 (Or.inr ⟨dX5_init_751, rfl, rfl⟩) (Or.inr ⟨dX5_init_753, rfl, rfl⟩) dX5_init_755 ?_
  refine hn_el B 59 (by decide) (by decide) dX5_init_756 (Or.inr ⟨dX5_init_757, rfl, rfl⟩) (Or.inr ⟨dX5_init_759, rfl, rfl⟩) dX5_init_761 ?_
  refine hn_el B 60 (by decide) (by decide) dX5_init_762 (Or.inr ⟨dX5_init_763, rfl, rfl⟩) (Or.inr ⟨dX5_init_765, rfl, rfl⟩) dX5_init_767 ?_
  refine hn_el B 61 (by decide) (by decide) dX5_init_768 (Or.inr ⟨dX5_init_769, rfl, rfl⟩) (Or.inr ⟨dX5_init_771, rfl, rfl⟩) dX5_init_773 ?_
  refine hn_el B 62 (by decide) (by decide) dX5_init_774 (Or.inr ⟨dX5_init_775, rfl, rfl⟩) (Or.inr ⟨dX5_init_777, rfl, rfl⟩) dX5_init_779 ?_
  refine hn_el B 63 (by decide) (by decide) dX5_init_780 (Or.inr ⟨dX5_init_781, rfl, rfl⟩) (Or.inr ⟨dX5_init_783, rfl, rfl⟩) dX5_init_785 ?_
  refine hn_el B 64 (by decide) (by decide) dX5_init_786 (Or.inr ⟨dX5_init_787, rfl, rfl⟩) (Or.inr ⟨dX5_init_789, rfl, rfl⟩) dX5_init_791 ?_
  refine hn_el B 65 (by decide) (by decide) dX5_init_792 (Or.inr ⟨dX5_init_793, rfl, rfl⟩) (Or.inr ⟨dX5_init_795, rfl, rfl⟩) dX5_init_797 ?_
  refine hn_el B 66 (by decide) (by decide) dX5_init_798 (Or.inr ⟨dX5_init_799, rfl, rfl⟩) (Or.inr ⟨dX5_init_801, rfl, rfl⟩) dX5_init_803 ?_
  refine hn_el B 67 (by decide) (by decide) dX5_init_804 (Or.inr ⟨dX5_init_805, rfl, rfl⟩) (Or.inr ⟨dX5_init_807, rfl, rfl⟩) dX5_init_809 ?_
  refine hn_el B 68 (by decide) (by decide) dX5_init_810 (Or.inr ⟨dX5_init_811, rfl, rfl⟩) (Or.inr ⟨dX5_init_813, rfl, rfl⟩) dX5_init_815 ?_
  refine hn_el B 69 (by decide) (by decide) dX5_init_816 (Or.inr ⟨dX5_init_817, rfl, rfl⟩) (Or.inr ⟨dX5_init_819, rfl, rfl⟩) dX5_init_821 ?_
  refine hn_el B 70 (by decide) (by decide) dX5_init_822 (Or.inr ⟨dX5_init_823, rfl, rfl⟩) (Or.inr ⟨dX5_init_825, rfl, rfl⟩) dX5_init_827 ?_
  refine hn_el B 71 (by decide) (by decide) dX5_init_828 (Or.inr ⟨dX5_init_829, rfl, rfl⟩) (Or.inr ⟨dX5_init_831, rfl, rfl⟩) dX5_init_833 ?_
  refine hn_el B 72 (by decide) (by decide) dX5_init_834 (Or.inr ⟨dX5_init_835, rfl, rfl⟩) (Or.inr ⟨dX5_init_837, rfl, rfl⟩) dX5_init_839 ?_
  refine hn_el B 73 (by decide) (by decide) dX5_init_840 (Or.inr ⟨dX5_init_841, rfl, rfl⟩) (Or.inr ⟨dX5_init_843, rfl, rfl⟩) dX5_init_845 ?_
  refine hn_el B 74 (by decide) (by decide) dX5_init_846 (Or.inr ⟨dX5_init_847, rfl, rfl⟩) (Or.inr ⟨dX5_init_849, rfl, rfl⟩) dX5_init_851 ?_
  refine hn_el B 75 (by decide) (by decide) dX5_init_852 (Or.inr ⟨dX5_init_853, rfl, rfl⟩) (Or.inr ⟨dX5_init_855, rfl, rfl⟩) dX5_init_857 ?_
  refine hn_el B 76 (by decide) (by decide) dX5_init_858 (Or.inr ⟨dX5_init_859, rfl, rfl⟩) (Or.inr ⟨dX5_init_861, rfl, rfl⟩) dX5_init_863 ?_
  refine hn_el B 77 (by decide) (by decide) dX5_init_864 (Or.inr ⟨dX5_init_865, rfl, rfl⟩) (Or.inr ⟨dX5_init_867, rfl, rfl⟩) dX5_init_869 ?_
  refine hn_el B 78 (by decide) (by decide) dX5_init_870 (Or.inr ⟨dX5_init_871, rfl, rfl⟩) (Or.inr ⟨dX5_init_873, rfl, rfl⟩) dX5_init_875 ?_
  refine hn_el B 79 (by decide) (by decide) dX5_init_876 (Or.inr ⟨dX5_init_877, rfl, rfl⟩) (Or.inr ⟨dX5_init_879, rfl, rfl⟩) dX5_init_881 ?_
  refine hn_el B 80 (by decide) (by decide) dX5_init_882 (Or.inr ⟨dX5_init_883, rfl, rfl⟩) (Or.inr ⟨dX5_init_885, rfl, rfl⟩) dX5_init_887 ?_
  refine hn_el B 81 (by decide) (by decide) dX5_init_888 (Or.inr ⟨dX5_init_889, rfl, rfl⟩) (Or.inr ⟨dX5_init_891, rfl, rfl⟩) dX5_init_893 ?_
  refine hn_el B 82 (by decide) (by decide) dX5_init_894 (Or.inr ⟨dX5_init_895, rfl, rfl⟩) (Or.inr ⟨dX5_init_897, rfl, rfl⟩) dX5_init_899 ?_
  refine hn_el B 83 (by decide) (by decide) dX5_init_900 (Or.inr ⟨dX5_init_901, rfl, rfl⟩) (Or.inr ⟨dX5_init_903, rfl, rfl⟩) dX5_init_905 ?_
  refine hn_el B 84 (by decide) (by decide) dX5_init_906 (Or.inr ⟨dX5_init_907, rfl, rfl⟩) (Or.inr ⟨dX5_init_909, rfl, rfl⟩) dX5_init_911 ?_
  refine hn_el B 85 (by decide) (by decide) dX5_init_912 (Or.inr ⟨dX5_init_913, rfl, rfl⟩) (Or.inr ⟨dX5_init_915, rfl, rfl⟩) dX5_init_917 ?_
  refine hn_el B 86 (by decide) (by decide) dX5_init_918 (Or.inr ⟨dX5_init_919, rfl, rfl⟩) (Or.inr ⟨dX5_init_921, rfl, rfl⟩) dX5_init_923 ?_
  refine hn_el B 87 (by decide) (by decide) dX5_init_924 (Or.inr ⟨dX5_init_925, rfl, rfl⟩) (Or.inr ⟨dX5_init_927, rfl, rfl⟩) dX5_init_929 ?_
  refine hn_el B 88 (by decide) (by decide) dX5_init_930 (Or.inr ⟨dX5_init_931, rfl, rfl⟩) (Or.inr ⟨dX5_init_933, rfl, rfl⟩) dX5_init_935 ?_
  refine hn_el B 89 (by decide) (by decide) dX5_init_936 (Or.inr ⟨dX5_init_937, rfl, rfl⟩) (Or.inr ⟨dX5_init_939, rfl, rfl⟩) dX5_init_941 ?_
  refine hn_el B 90 (by decide) (by decide) dX5_init_942 (Or.inr ⟨dX5_init_943, rfl, rfl⟩) (Or.inr ⟨dX5_init_945, rfl, rfl⟩) dX5_init_947 ?_
  refine hn_el B 91 (by decide) (by decide) dX5_init_948 (Or.inr ⟨dX5_init_949, rfl, rfl⟩) (Or.inr ⟨dX5_init_951, rfl, rfl⟩) dX5_init_953 ?_
  refine hn_el B 92 (by decide) (by decide) dX5_init_954 (Or.inr ⟨dX5_init_955, rfl, rfl⟩) (Or.inr ⟨dX5_init_957, rfl, rfl⟩) dX5_init_959 ?_
  refine hn_el B 93 (by decide) (by decide) dX5_init_960 (Or.inr ⟨dX5_init_961, rfl, rfl⟩) (Or.inr ⟨dX5_init_963, rfl, rfl⟩) dX5_init_965 ?_
  refine hn_el B 94 (by decide) (by decide) dX5_init_966 (Or.inr ⟨dX5_init_967, rfl, rfl⟩) (Or.inr ⟨dX5_init_969, rfl, rfl⟩) dX5_init_971 ?_
  refine hn_el B 95 (by decide) (by decide) dX5_init_972 (Or.inr ⟨dX5_init_973, rfl, rfl⟩) (Or.inr ⟨dX5_init_975, rfl, rfl⟩) dX5_init_977 ?_
  exact k
theorem hn_lpX5 (B : hg_B p s m args meth c cX5_init yX5_init.cls wsL_law nL D cI cA ad o A) (hnL : 1 < nL) {a q ql : Nat} {g : Nat → Int32} {fs : List Value} {Wa Wb : va_W} (hw0 : Wa[0]? = some (hn_o a 5 fs)) (hl5 : Wa.length = 5) (hwl : Wb[7]? = some (hn_ai cI ql 38 g)) (hf : fs[7]? = some (.ref q)) (hf2 : fs[19]? = some (.ref ql)) (K : hn_At p l e R s m args below meth c D A Q nL (Wa ++ hn_ai cI q 160 (fun j => if j < 38 then g j else 0) :: Wb) nc ns [(1, .int (hg_I 38)), (0, .ref a)] 1067 []) : ∀ (k i : Nat), i + k = 38 → hn_At p l e R s m args below meth c D A Q nL (Wa ++ hn_ai cI q 160 (fun j => if j < i then g j else 0) :: Wb) nc ns [(1, .int (hg_I (i : Int))), (0, .ref a)] 1043 [] := by
  have hA0 : ∀ z : Nat × va_E, ∀ k, k < 5 → (Wa ++ z :: Wb)[k]? = Wa[k]? := fun z k hk => List.getElem?_append_left (by omega)
  have hA5 : ∀ z : Nat × va_E, (Wa ++ z :: Wb)[5]? = some z := fun z => by rw [List.getElem?_append_right (by omega), hl5]; rfl
  have hA13 : ∀ z : Nat × va_E, (Wa ++ z :: Wb)[13]? = Wb[7]? := fun z => by rw [List.getElem?_append_right (by omega), hl5]; rfl
  have hS5 : ∀ z z' : Nat × va_E, (Wa ++ z :: Wb).set 5 z' = Wa ++ z' :: Wb := fun z z' => by rw [List.set_append_right _ _ (by omega), hl5]; rfl
  intro k
  induction k with
  | zero =>
    intro i h1
    have hi : i = 38 := h1
    subst hi
    refine hn_iload_n B 0 dX5_init_1043 rfl rfl ?_
    refine hn_bipush B dX5_init_1044 rfl ?_
    exact hn_icmp_ge (α := Unit) (X := some ()) (Y := none) (r := ()) (tgt := 1067) B dX5_init_1046 (by decide) (by decide) (fun _ => K) (fun h => by cases h)
  | succ k ih =>
    intro i h1
    refine hn_iload_n B 0 dX5_init_1043 rfl rfl ?_
    refine hn_bipush B dX5_init_1044 rfl ?_
    refine hn_icmp_ge (α := Unit) (X := none) (Y := some ()) (r := ()) (tgt := 1067) B dX5_init_1046 (by decide) (by rw [wr_id (x := 38) (by omega) (by omega), wr_id (x := (i : Int)) (by omega) (by omega), if_neg (by omega)]) (fun h => by cases h) (fun _ => ?_)
    refine hn_aload_n B 1 dX5_init_1049 rfl rfl ?_
    refine hn_get B 0 5 (f := 7) (C := RX5) (T := TX5) (N := 37) rfl (by rw [hA0 _ 0 (by omega)]; exact hw0) inlX5 (by decide) (wl_4 6 rfl) rfl hf dX5_init_1050 ?_
    refine hn_iload_n B 0 dX5_init_1053 rfl rfl ?_
    refine hn_aload_n B 1 dX5_init_1054 rfl rfl ?_
    refine hn_get B 0 5 (f := 19) (C := RX5) (T := TX5) (N := 37) rfl (by rw [hA0 _ 0 (by omega)]; exact hw0) inlX5 (by decide) (wl_4 14 rfl) rfl hf2 dX5_init_1055 ?_
    refine hn_iload_n B 0 dX5_init_1058 rfl rfl ?_
    refine hn_iald B 13 (n := 38) (f := g) ((hA13 _).trans hwl) (by rw [wr_id (x := (i : Int)) (by omega) (by omega)]; omega) dX5_init_1059 ?_
    rw [← hg_I_toInt (g (wr (i : Int)).toNat)]
    refine hn_iast B 5 (hA5 _) (by rw [wr_id (x := (i : Int)) (by omega) (by omega)]; omega) dX5_init_1060 (W2 := Wa ++ hn_ai cI q 160 (fun j => if j < i + 1 then g j else 0) :: Wb) ?_ ?_
    · rw [hS5, hg_I_toInt, wr_id (x := (i : Int)) (by omega) (by omega), show (i : Int).toNat = i by omega]
      congr 4
      funext j
      unfold upd
      by_cases q2 : j = i
      · rw [if_pos q2, if_pos (by omega), q2]
      · rw [if_neg q2]
        show (if j < i then g j else 0) = _
        by_cases q3 : j < i
        · rw [if_pos q3, if_pos (by omega)]
        · rw [if_neg q3, if_neg (by omega)]
    refine hn_iinc B 0 [(1, .int (hg_I ((i : Int) + 1))), (0, .ref a)] dX5_init_1061 rfl hnL rfl ?_
    refine hn_goto B (tgt := 1043) dX5_init_1064 (by decide) ?_
    rw [show (i : Int) + 1 = ((i + 1 : Nat) : Int) by omega]
    exact ih (i + 1) (by omega)
end HNX5
/-- the reference before it reads its own law -/
def hn_v0 : hg_W := fun c k => match c with
  | 0 => if k = 8 then 38 else 0
  | 4 => ([1, 0, 2, 0, 4, 0, 8, 0, 16, 0, 32, 0] : List Int).getD k 0
  | 10 => ([-1, -1, -1, -1] : List Int).getD k 0
  | 13 => ([116, 97, 107, 101, 115, 32, 112, 114, 105, 100, 101, 32, 59, 32, 115, 111, 117, 110, 100, 115, 32, 119, 111, 114, 116, 104, 32, 59, 32, 99, 111, 115, 116, 115, 32, 49, 32, 59] : List Int).getD k 0
  | 14 => ([116, 97, 107, 101, 115, 32, 32, 32, 115, 111, 117, 110, 100, 115, 32, 32, 99, 111, 115, 116, 115, 32, 32, 32, 112, 114, 105, 100, 101, 32, 32, 32, 119, 111, 114, 116, 104, 32, 32, 32, 99, 111, 105, 110, 115, 32, 32, 32, 112, 117, 114, 115, 101, 32, 32, 32, 116, 117, 114, 110, 115, 32, 32, 32, 109, 111, 114, 101, 32, 32, 32, 32, 111, 114, 32, 32, 32, 32, 32, 32, 97, 110, 100, 32, 32, 32, 32, 32, 110, 111, 116, 32, 32, 32, 32, 32] : List Int).getD k 0
  | 5 => ([116, 97, 107, 101, 115, 32, 112, 114, 105, 100, 101, 32, 59, 32, 115, 111, 117, 110, 100, 115, 32, 119, 111, 114, 116, 104, 32, 59, 32, 99, 111, 115, 116, 115, 32, 49, 32, 59] : List Int).getD k 0
  | _ => 0
abbrev rmX5_init : Room := { frames := 6, cells := 21, slots := 4206, locals := 150 }
set_option maxHeartbeats 16000000 in
theorem c_X5_init (l : Launch) (D : va_G) (cI cA : ClassId) (a : Nat) {v1 : hg_W} {r1 : Int} (hv1 : fX5_text hn_v0 = some (v1, r1)) : hn_Mv l yX5_init (Cond.code yX5_init cX5_init 2 none :: wsL_law) rmX5_init D cI cA [hn_o a 5 [.int 0, .null, .null, .null, .null, .int 0, .int 0, .null, .int 0, .null, .null, .int 0, .int 0, .int 0, .null, .null, .null, .null, .null, .null, .int 0, .int 0, .int 0, .int 0, .null, .null, .int 0, .int 0, .int 0, .null, .null, .null, .null, .int 0, .null, .null, .int 0]] [.ref a] (fun W1 => ∃ ad : Nat → Nat, ad 0 = a ∧ W1 = hg_CW cI cA ad 1 v1) := by
  refine hn_met cX5_init 2 none (by decide) (Nat.le_of_ble_eq_true rfl) rfl ?_
  intro p e s m args below meth c A B hAO hm hr
  refine hn_aload_n B 0 dX5_init_0 rfl rfl ?_
  refine hn_obj B (wl_4 1 rfl) (wl_1 10 rfl) (wl_1 11 rfl) ⟨Nat.le_of_ble_eq_true rfl, Nat.le_of_ble_eq_true rfl⟩ dX5_init_1 ?_
  refine hn_aload_n B 0 dX5_init_4 rfl rfl ?_
  refine hn_bipush B dX5_init_5 rfl ?_
  refine hn_newa B (N := 6) ⟨by decide, by decide, by decide⟩ (wl_2 7 rfl) (Nat.le_of_ble_eq_true rfl) (Nat.le_of_ble_eq_true rfl) dX5_init_7 (fun q1 => ?_)
  refine hn_putF B 0 5 (f := 1) (C := RX5) (T := TX5) (N := 37) rfl tyX5 tyX5_ok nmX5 rfl inlX5 (by decide) (Nat.le_of_ble_eq_true rfl) (wl_4 2 rfl) rfl rfl hm rfl (ty := .array .int) (by decide +kernel) rfl rfl dX5_init_9 (W2 := [hn_o a 5 [.int 0, .ref q1, .null, .null, .null, .int 0, .int 0, .null, .int 0, .null, .null, .int 0, .int 0, .int 0, .null, .null, .null, .null, .null, .null, .int 0, .int 0, .int 0, .int 0, .null, .null, .int 0, .int 0, .int 0, .null, .null, .null, .null, .int 0, .null, .null, .int 0], hn_ai cI q1 6 (fun _ => 0)]) rfl ?_
  refine hn_aload_n B 0 dX5_init_12 rfl rfl ?_
  refine hn_bipush B dX5_init_13 rfl ?_
  refine hn_newa B (N := 6) ⟨by decide, by decide, by decide⟩ (wl_2 7 rfl) (Nat.le_of_ble_eq_true rfl) (Nat.le_of_ble_eq_true rfl) dX5_init_15 (fun q2 => ?_)
  refine hn_putF B 0 5 (f := 2) (C := RX5) (T := TX5) (N := 37) rfl tyX5 tyX5_ok nmX5 rfl inlX5 (by decide) (Nat.le_of_ble_eq_true rfl) (wl_4 3 rfl) rfl rfl hm rfl (ty := .array .int) (by decide +kernel) rfl rfl dX5_init_17 (W2 := [hn_o a 5 [.int 0, .ref q1, .ref q2, .null, .null, .int 0, .int 0, .null, .int 0, .null, .null, .int 0, .int 0, .int 0, .null, .null, .null, .null, .null, .null, .int 0, .int 0, .int 0, .int 0, .null, .null, .int 0, .int 0, .int 0, .null, .null, .null, .null, .int 0, .null, .null, .int 0], hn_ai cI q1 6 (fun _ => 0), hn_ai cI q2 6 (fun _ => 0)]) rfl ?_
  refine hn_aload_n B 0 dX5_init_20 rfl rfl ?_
  refine hn_bipush B dX5_init_21 rfl ?_
  refine hn_newa B (N := 18) ⟨by decide, by decide, by decide⟩ (wl_2 7 rfl) (Nat.le_of_ble_eq_true rfl) (Nat.le_of_ble_eq_true rfl) dX5_init_23 (fun q3 => ?_)
  refine hn_putF B 0 5 (f := 3) (C := RX5) (T := TX5) (N := 37) rfl tyX5 tyX5_ok nmX5 rfl inlX5 (by decide) (Nat.le_of_ble_eq_true rfl) (wl_4 4 rfl) rfl rfl hm rfl (ty := .array .int) (by decide +kernel) rfl rfl dX5_init_25 (W2 := [hn_o a 5 [.int 0, .ref q1, .ref q2, .ref q3, .null, .int 0, .int 0, .null, .int 0, .null, .null, .int 0, .int 0, .int 0, .null, .null, .null, .null, .null, .null, .int 0, .int 0, .int 0, .int 0, .null, .null, .int 0, .int 0, .int 0, .null, .null, .null, .null, .int 0, .null, .null, .int 0], hn_ai cI q1 6 (fun _ => 0), hn_ai cI q2 6 (fun _ => 0), hn_ai cI q3 18 (fun _ => 0)]) rfl ?_
  refine hn_aload_n B 0 dX5_init_28 rfl rfl ?_
  refine hn_bipush B dX5_init_29 rfl ?_
  refine hn_newa B (N := 12) ⟨by decide, by decide, by decide⟩ (wl_2 7 rfl) (Nat.le_of_ble_eq_true rfl) (Nat.le_of_ble_eq_true rfl) dX5_init_31 (fun q4 => ?_)
  refine hn_sgX5_init_33 B (W1 := [hn_o a 5 [.int 0, .ref q1, .ref q2, .ref q3, .null, .int 0, .int 0, .null, .int 0, .null, .null, .int 0, .int 0, .int 0, .null, .null, .null, .null, .null, .null, .int 0, .int 0, .int 0, .int 0, .null, .null, .int 0, .int 0, .int 0, .null, .null, .null, .null, .int 0, .null, .null, .int 0], hn_ai cI q1 6 (fun _ => 0), hn_ai cI q2 6 (fun _ => 0), hn_ai cI q3 18 (fun _ => 0)]) ?_
  refine hn_putF B 0 5 (f := 4) (C := RX5) (T := TX5) (N := 37) rfl tyX5 tyX5_ok nmX5 rfl inlX5 (by decide) (Nat.le_of_ble_eq_true rfl) (wl_4 5 rfl) rfl rfl hm rfl (ty := .array .int) (by decide +kernel) rfl rfl dX5_init_90 (W2 := [hn_o a 5 [.int 0, .ref q1, .ref q2, .ref q3, .ref q4, .int 0, .int 0, .null, .int 0, .null, .null, .int 0, .int 0, .int 0, .null, .null, .null, .null, .null, .null, .int 0, .int 0, .int 0, .int 0, .null, .null, .int 0, .int 0, .int 0, .null, .null, .null, .null, .int 0, .null, .null, .int 0], hn_ai cI q1 6 (fun _ => 0), hn_ai cI q2 6 (fun _ => 0), hn_ai cI q3 18 (fun _ => 0), hn_ai cI q4 12 (hn_upl hn_taX5_init_33 (fun _ => 0))]) rfl ?_
  refine hn_aload_n B 0 dX5_init_93 rfl rfl ?_
  refine hn_sipush B dX5_init_94 rfl ?_
  refine hn_newa B (N := 160) ⟨by decide, by decide, by decide⟩ (wl_2 7 rfl) (Nat.le_of_ble_eq_true rfl) (Nat.le_of_ble_eq_true rfl) dX5_init_97 (fun q5 => ?_)
  refine hn_putF B 0 5 (f := 7) (C := RX5) (T := TX5) (N := 37) rfl tyX5 tyX5_ok nmX5 rfl inlX5 (by decide) (Nat.le_of_ble_eq_true rfl) (wl_4 6 rfl) rfl rfl hm rfl (ty := .array .int) (by decide +kernel) rfl rfl dX5_init_99 (W2 := [hn_o a 5 [.int 0, .ref q1, .ref q2, .ref q3, .ref q4, .int 0, .int 0, .ref q5, .int 0, .null, .null, .int 0, .int 0, .int 0, .null, .null, .null, .null, .null, .null, .int 0, .int 0, .int 0, .int 0, .null, .null, .int 0, .int 0, .int 0, .null, .null, .null, .null, .int 0, .null, .null, .int 0], hn_ai cI q1 6 (fun _ => 0), hn_ai cI q2 6 (fun _ => 0), hn_ai cI q3 18 (fun _ => 0), hn_ai cI q4 12 (hn_upl hn_taX5_init_33 (fun _ => 0)), hn_ai cI q5 160 (fun _ => 0)]) rfl ?_
  refine hn_aload_n B 0 dX5_init_102 rfl rfl ?_
  refine hn_sipush B dX5_init_103 rfl ?_
  refine hn_newa B (N := 1200) ⟨by decide, by decide, by decide⟩ (wl_2 7 rfl) (Nat.le_of_ble_eq_true rfl) (Nat.le_of_ble_eq_true rfl) dX5_init_106 (fun q6 => ?_)
  refine hn_putF B 0 5 (f := 9) (C := RX5) (T := TX5) (N := 37) rfl tyX5 tyX5_ok nmX5 rfl inlX5 (by decide) (Nat.le_of_ble_eq_true rfl) (wl_4 7 rfl) rfl rfl hm rfl (ty := .array .int) (by decide +kernel) rfl rfl dX5_init_108 (W2 := [hn_o a 5 [.int 0, .ref q1, .ref q2, .ref q3, .ref q4, .int 0, .int 0, .ref q5, .int 0, .ref q6, .null, .int 0, .int 0, .int 0, .null, .null, .null, .null, .null, .null, .int 0, .int 0, .int 0, .int 0, .null, .null, .int 0, .int 0, .int 0, .null, .null, .null, .null, .int 0, .null, .null, .int 0], hn_ai cI q1 6 (fun _ => 0), hn_ai cI q2 6 (fun _ => 0), hn_ai cI q3 18 (fun _ => 0), hn_ai cI q4 12 (hn_upl hn_taX5_init_33 (fun _ => 0)), hn_ai cI q5 160 (fun _ => 0), hn_ai cI q6 1200 (fun _ => 0)]) rfl ?_
  refine hn_aload_n B 0 dX5_init_111 rfl rfl ?_
  refine hn_bipush B dX5_init_112 rfl ?_
  refine hn_newa B (N := 24) ⟨by decide, by decide, by decide⟩ (wl_2 7 rfl) (Nat.le_of_ble_eq_true rfl) (Nat.le_of_ble_eq_true rfl) dX5_init_114 (fun q7 => ?_)
  refine hn_putF B 0 5 (f := 10) (C := RX5) (T := TX5) (N := 37) rfl tyX5 tyX5_ok nmX5 rfl inlX5 (by decide) (Nat.le_of_ble_eq_true rfl) (wl_4 8 rfl) rfl rfl hm rfl (ty := .array .int) (by decide +kernel) rfl rfl dX5_init_116 (W2 := [hn_o a 5 [.int 0, .ref q1, .ref q2, .ref q3, .ref q4, .int 0, .int 0, .ref q5, .int 0, .ref q6, .ref q7, .int 0, .int 0, .int 0, .null, .null, .null, .null, .null, .null, .int 0, .int 0, .int 0, .int 0, .null, .null, .int 0, .int 0, .int 0, .null, .null, .null, .null, .int 0, .null, .null, .int 0], hn_ai cI q1 6 (fun _ => 0), hn_ai cI q2 6 (fun _ => 0), hn_ai cI q3 18 (fun _ => 0), hn_ai cI q4 12 (hn_upl hn_taX5_init_33 (fun _ => 0)), hn_ai cI q5 160 (fun _ => 0), hn_ai cI q6 1200 (fun _ => 0), hn_ai cI q7 24 (fun _ => 0)]) rfl ?_
  refine hn_aload_n B 0 dX5_init_119 rfl rfl ?_
  refine hn_bipush B dX5_init_120 rfl ?_
  refine hn_newa B (N := 30) ⟨by decide, by decide, by decide⟩ (wl_2 7 rfl) (Nat.le_of_ble_eq_true rfl) (Nat.le_of_ble_eq_true rfl) dX5_init_122 (fun q8 => ?_)
  refine hn_putF B 0 5 (f := 14) (C := RX5) (T := TX5) (N := 37) rfl tyX5 tyX5_ok nmX5 rfl inlX5 (by decide) (Nat.le_of_ble_eq_true rfl) (wl_4 9 rfl) rfl rfl hm rfl (ty := .array .int) (by decide +kernel) rfl rfl dX5_init_124 (W2 := [hn_o a 5 [.int 0, .ref q1, .ref q2, .ref q3, .ref q4, .int 0, .int 0, .ref q5, .int 0, .ref q6, .ref q7, .int 0, .int 0, .int 0, .ref q8, .null, .null, .null, .null, .null, .int 0, .int 0, .int 0, .int 0, .null, .null, .int 0, .int 0, .int 0, .null, .null, .null, .null, .int 0, .null, .null, .int 0], hn_ai cI q1 6 (fun _ => 0), hn_ai cI q2 6 (fun _ => 0), hn_ai cI q3 18 (fun _ => 0), hn_ai cI q4 12 (hn_upl hn_taX5_init_33 (fun _ => 0)), hn_ai cI q5 160 (fun _ => 0), hn_ai cI q6 1200 (fun _ => 0), hn_ai cI q7 24 (fun _ => 0), hn_ai cI q8 30 (fun _ => 0)]) rfl ?_
  refine hn_aload_n B 0 dX5_init_127 rfl rfl ?_
  refine hn_iconst B dX5_init_128 ?_
  refine hn_newa B (N := 4) ⟨by decide, by decide, by decide⟩ (wl_2 7 rfl) (Nat.le_of_ble_eq_true rfl) (Nat.le_of_ble_eq_true rfl) dX5_init_129 (fun q9 => ?_)
  refine hn_putF B 0 5 (f := 15) (C := RX5) (T := TX5) (N := 37) rfl tyX5 tyX5_ok nmX5 rfl inlX5 (by decide) (Nat.le_of_ble_eq_true rfl) (wl_4 10 rfl) rfl rfl hm rfl (ty := .array .int) (by decide +kernel) rfl rfl dX5_init_131 (W2 := [hn_o a 5 [.int 0, .ref q1, .ref q2, .ref q3, .ref q4, .int 0, .int 0, .ref q5, .int 0, .ref q6, .ref q7, .int 0, .int 0, .int 0, .ref q8, .ref q9, .null, .null, .null, .null, .int 0, .int 0, .int 0, .int 0, .null, .null, .int 0, .int 0, .int 0, .null, .null, .null, .null, .int 0, .null, .null, .int 0], hn_ai cI q1 6 (fun _ => 0), hn_ai cI q2 6 (fun _ => 0), hn_ai cI q3 18 (fun _ => 0), hn_ai cI q4 12 (hn_upl hn_taX5_init_33 (fun _ => 0)), hn_ai cI q5 160 (fun _ => 0), hn_ai cI q6 1200 (fun _ => 0), hn_ai cI q7 24 (fun _ => 0), hn_ai cI q8 30 (fun _ => 0), hn_ai cI q9 4 (fun _ => 0)]) rfl ?_
  refine hn_aload_n B 0 dX5_init_134 rfl rfl ?_
  refine hn_iconst B dX5_init_135 ?_
  refine hn_newa B (N := 4) ⟨by decide, by decide, by decide⟩ (wl_2 7 rfl) (Nat.le_of_ble_eq_true rfl) (Nat.le_of_ble_eq_true rfl) dX5_init_136 (fun q10 => ?_)
  refine hn_sgX5_init_138 B (W1 := [hn_o a 5 [.int 0, .ref q1, .ref q2, .ref q3, .ref q4, .int 0, .int 0, .ref q5, .int 0, .ref q6, .ref q7, .int 0, .int 0, .int 0, .ref q8, .ref q9, .null, .null, .null, .null, .int 0, .int 0, .int 0, .int 0, .null, .null, .int 0, .int 0, .int 0, .null, .null, .null, .null, .int 0, .null, .null, .int 0], hn_ai cI q1 6 (fun _ => 0), hn_ai cI q2 6 (fun _ => 0), hn_ai cI q3 18 (fun _ => 0), hn_ai cI q4 12 (hn_upl hn_taX5_init_33 (fun _ => 0)), hn_ai cI q5 160 (fun _ => 0), hn_ai cI q6 1200 (fun _ => 0), hn_ai cI q7 24 (fun _ => 0), hn_ai cI q8 30 (fun _ => 0), hn_ai cI q9 4 (fun _ => 0)]) ?_
  refine hn_putF B 0 5 (f := 16) (C := RX5) (T := TX5) (N := 37) rfl tyX5 tyX5_ok nmX5 rfl inlX5 (by decide) (Nat.le_of_ble_eq_true rfl) (wl_4 11 rfl) rfl rfl hm rfl (ty := .array .int) (by decide +kernel) rfl rfl dX5_init_154 (W2 := [hn_o a 5 [.int 0, .ref q1, .ref q2, .ref q3, .ref q4, .int 0, .int 0, .ref q5, .int 0, .ref q6, .ref q7, .int 0, .int 0, .int 0, .ref q8, .ref q9, .ref q10, .null, .null, .null, .int 0, .int 0, .int 0, .int 0, .null, .null, .int 0, .int 0, .int 0, .null, .null, .null, .null, .int 0, .null, .null, .int 0], hn_ai cI q1 6 (fun _ => 0), hn_ai cI q2 6 (fun _ => 0), hn_ai cI q3 18 (fun _ => 0), hn_ai cI q4 12 (hn_upl hn_taX5_init_33 (fun _ => 0)), hn_ai cI q5 160 (fun _ => 0), hn_ai cI q6 1200 (fun _ => 0), hn_ai cI q7 24 (fun _ => 0), hn_ai cI q8 30 (fun _ => 0), hn_ai cI q9 4 (fun _ => 0), hn_ai cI q10 4 (hn_upl hn_taX5_init_138 (fun _ => 0))]) rfl ?_
  refine hn_aload_n B 0 dX5_init_157 rfl rfl ?_
  refine hn_iconst B dX5_init_158 ?_
  refine hn_newa B (N := 4) ⟨by decide, by decide, by decide⟩ (wl_2 7 rfl) (Nat.le_of_ble_eq_true rfl) (Nat.le_of_ble_eq_true rfl) dX5_init_159 (fun q11 => ?_)
  refine hn_putF B 0 5 (f := 17) (C := RX5) (T := TX5) (N := 37) rfl tyX5 tyX5_ok nmX5 rfl inlX5 (by decide) (Nat.le_of_ble_eq_true rfl) (wl_4 12 rfl) rfl rfl hm rfl (ty := .array .int) (by decide +kernel) rfl rfl dX5_init_161 (W2 := [hn_o a 5 [.int 0, .ref q1, .ref q2, .ref q3, .ref q4, .int 0, .int 0, .ref q5, .int 0, .ref q6, .ref q7, .int 0, .int 0, .int 0, .ref q8, .ref q9, .ref q10, .ref q11, .null, .null, .int 0, .int 0, .int 0, .int 0, .null, .null, .int 0, .int 0, .int 0, .null, .null, .null, .null, .int 0, .null, .null, .int 0], hn_ai cI q1 6 (fun _ => 0), hn_ai cI q2 6 (fun _ => 0), hn_ai cI q3 18 (fun _ => 0), hn_ai cI q4 12 (hn_upl hn_taX5_init_33 (fun _ => 0)), hn_ai cI q5 160 (fun _ => 0), hn_ai cI q6 1200 (fun _ => 0), hn_ai cI q7 24 (fun _ => 0), hn_ai cI q8 30 (fun _ => 0), hn_ai cI q9 4 (fun _ => 0), hn_ai cI q10 4 (hn_upl hn_taX5_init_138 (fun _ => 0)), hn_ai cI q11 4 (fun _ => 0)]) rfl ?_
  refine hn_aload_n B 0 dX5_init_164 rfl rfl ?_
  refine hn_sipush B dX5_init_165 rfl ?_
  refine hn_newa B (N := 160) ⟨by decide, by decide, by decide⟩ (wl_2 7 rfl) (Nat.le_of_ble_eq_true rfl) (Nat.le_of_ble_eq_true rfl) dX5_init_168 (fun q12 => ?_)
  refine hn_putF B 0 5 (f := 18) (C := RX5) (T := TX5) (N := 37) rfl tyX5 tyX5_ok nmX5 rfl inlX5 (by decide) (Nat.le_of_ble_eq_true rfl) (wl_4 13 rfl) rfl rfl hm rfl (ty := .array .int) (by decide +kernel) rfl rfl dX5_init_170 (W2 := [hn_o a 5 [.int 0, .ref q1, .ref q2, .ref q3, .ref q4, .int 0, .int 0, .ref q5, .int 0, .ref q6, .ref q7, .int 0, .int 0, .int 0, .ref q8, .ref q9, .ref q10, .ref q11, .ref q12, .null, .int 0, .int 0, .int 0, .int 0, .null, .null, .int 0, .int 0, .int 0, .null, .null, .null, .null, .int 0, .null, .null, .int 0], hn_ai cI q1 6 (fun _ => 0), hn_ai cI q2 6 (fun _ => 0), hn_ai cI q3 18 (fun _ => 0), hn_ai cI q4 12 (hn_upl hn_taX5_init_33 (fun _ => 0)), hn_ai cI q5 160 (fun _ => 0), hn_ai cI q6 1200 (fun _ => 0), hn_ai cI q7 24 (fun _ => 0), hn_ai cI q8 30 (fun _ => 0), hn_ai cI q9 4 (fun _ => 0), hn_ai cI q10 4 (hn_upl hn_taX5_init_138 (fun _ => 0)), hn_ai cI q11 4 (fun _ => 0), hn_ai cI q12 160 (fun _ => 0)]) rfl ?_
  refine hn_aload_n B 0 dX5_init_173 rfl rfl ?_
  refine hn_bipush B dX5_init_174 rfl ?_
  refine hn_newa B (N := 38) ⟨by decide, by decide, by decide⟩ (wl_2 7 rfl) (Nat.le_of_ble_eq_true rfl) (Nat.le_of_ble_eq_true rfl) dX5_init_176 (fun q13 => ?_)
  refine hn_sgX5_init_178 B (W1 := [hn_o a 5 [.int 0, .ref q1, .ref q2, .ref q3, .ref q4, .int 0, .int 0, .ref q5, .int 0, .ref q6, .ref q7, .int 0, .int 0, .int 0, .ref q8, .ref q9, .ref q10, .ref q11, .ref q12, .null, .int 0, .int 0, .int 0, .int 0, .null, .null, .int 0, .int 0, .int 0, .null, .null, .null, .null, .int 0, .null, .null, .int 0], hn_ai cI q1 6 (fun _ => 0), hn_ai cI q2 6 (fun _ => 0), hn_ai cI q3 18 (fun _ => 0), hn_ai cI q4 12 (hn_upl hn_taX5_init_33 (fun _ => 0)), hn_ai cI q5 160 (fun _ => 0), hn_ai cI q6 1200 (fun _ => 0), hn_ai cI q7 24 (fun _ => 0), hn_ai cI q8 30 (fun _ => 0), hn_ai cI q9 4 (fun _ => 0), hn_ai cI q10 4 (hn_upl hn_taX5_init_138 (fun _ => 0)), hn_ai cI q11 4 (fun _ => 0), hn_ai cI q12 160 (fun _ => 0)]) ?_
  refine hn_putF B 0 5 (f := 19) (C := RX5) (T := TX5) (N := 37) rfl tyX5 tyX5_ok nmX5 rfl inlX5 (by decide) (Nat.le_of_ble_eq_true rfl) (wl_4 14 rfl) rfl rfl hm rfl (ty := .array .int) (by decide +kernel) rfl rfl dX5_init_400 (W2 := [hn_o a 5 [.int 0, .ref q1, .ref q2, .ref q3, .ref q4, .int 0, .int 0, .ref q5, .int 0, .ref q6, .ref q7, .int 0, .int 0, .int 0, .ref q8, .ref q9, .ref q10, .ref q11, .ref q12, .ref q13, .int 0, .int 0, .int 0, .int 0, .null, .null, .int 0, .int 0, .int 0, .null, .null, .null, .null, .int 0, .null, .null, .int 0], hn_ai cI q1 6 (fun _ => 0), hn_ai cI q2 6 (fun _ => 0), hn_ai cI q3 18 (fun _ => 0), hn_ai cI q4 12 (hn_upl hn_taX5_init_33 (fun _ => 0)), hn_ai cI q5 160 (fun _ => 0), hn_ai cI q6 1200 (fun _ => 0), hn_ai cI q7 24 (fun _ => 0), hn_ai cI q8 30 (fun _ => 0), hn_ai cI q9 4 (fun _ => 0), hn_ai cI q10 4 (hn_upl hn_taX5_init_138 (fun _ => 0)), hn_ai cI q11 4 (fun _ => 0), hn_ai cI q12 160 (fun _ => 0), hn_ai cI q13 38 (hn_upl hn_taX5_init_178 (fun _ => 0))]) rfl ?_
  refine hn_aload_n B 0 dX5_init_403 rfl rfl ?_
  refine hn_bipush B dX5_init_404 rfl ?_
  refine hn_newa B (N := 96) ⟨by decide, by decide, by decide⟩ (wl_2 7 rfl) (Nat.le_of_ble_eq_true rfl) (Nat.le_of_ble_eq_true rfl) dX5_init_406 (fun q14 => ?_)
  refine hn_sgX5_init_408 B (W1 := [hn_o a 5 [.int 0, .ref q1, .ref q2, .ref q3, .ref q4, .int 0, .int 0, .ref q5, .int 0, .ref q6, .ref q7, .int 0, .int 0, .int 0, .ref q8, .ref q9, .ref q10, .ref q11, .ref q12, .ref q13, .int 0, .int 0, .int 0, .int 0, .null, .null, .int 0, .int 0, .int 0, .null, .null, .null, .null, .int 0, .null, .null, .int 0], hn_ai cI q1 6 (fun _ => 0), hn_ai cI q2 6 (fun _ => 0), hn_ai cI q3 18 (fun _ => 0), hn_ai cI q4 12 (hn_upl hn_taX5_init_33 (fun _ => 0)), hn_ai cI q5 160 (fun _ => 0), hn_ai cI q6 1200 (fun _ => 0), hn_ai cI q7 24 (fun _ => 0), hn_ai cI q8 30 (fun _ => 0), hn_ai cI q9 4 (fun _ => 0), hn_ai cI q10 4 (hn_upl hn_taX5_init_138 (fun _ => 0)), hn_ai cI q11 4 (fun _ => 0), hn_ai cI q12 160 (fun _ => 0), hn_ai cI q13 38 (hn_upl hn_taX5_init_178 (fun _ => 0))]) ?_
  refine hn_putF B 0 5 (f := 24) (C := RX5) (T := TX5) (N := 37) rfl tyX5 tyX5_ok nmX5 rfl inlX5 (by decide) (Nat.le_of_ble_eq_true rfl) (wl_4 15 rfl) rfl rfl hm rfl (ty := .array .int) (by decide +kernel) rfl rfl dX5_init_978 (W2 := [hn_o a 5 [.int 0, .ref q1, .ref q2, .ref q3, .ref q4, .int 0, .int 0, .ref q5, .int 0, .ref q6, .ref q7, .int 0, .int 0, .int 0, .ref q8, .ref q9, .ref q10, .ref q11, .ref q12, .ref q13, .int 0, .int 0, .int 0, .int 0, .ref q14, .null, .int 0, .int 0, .int 0, .null, .null, .null, .null, .int 0, .null, .null, .int 0], hn_ai cI q1 6 (fun _ => 0), hn_ai cI q2 6 (fun _ => 0), hn_ai cI q3 18 (fun _ => 0), hn_ai cI q4 12 (hn_upl hn_taX5_init_33 (fun _ => 0)), hn_ai cI q5 160 (fun _ => 0), hn_ai cI q6 1200 (fun _ => 0), hn_ai cI q7 24 (fun _ => 0), hn_ai cI q8 30 (fun _ => 0), hn_ai cI q9 4 (fun _ => 0), hn_ai cI q10 4 (hn_upl hn_taX5_init_138 (fun _ => 0)), hn_ai cI q11 4 (fun _ => 0), hn_ai cI q12 160 (fun _ => 0), hn_ai cI q13 38 (hn_upl hn_taX5_init_178 (fun _ => 0)), hn_ai cI q14 96 (hn_upl hn_taX5_init_408 (fun _ => 0))]) rfl ?_
  refine hn_aload_n B 0 dX5_init_981 rfl rfl ?_
  refine hn_sipush B dX5_init_982 rfl ?_
  refine hn_newa B (N := 200) ⟨by decide, by decide, by decide⟩ (wl_2 7 rfl) (Nat.le_of_ble_eq_true rfl) (Nat.le_of_ble_eq_true rfl) dX5_init_985 (fun q15 => ?_)
  refine hn_putF B 0 5 (f := 25) (C := RX5) (T := TX5) (N := 37) rfl tyX5 tyX5_ok nmX5 rfl inlX5 (by decide) (Nat.le_of_ble_eq_true rfl) (wl_4 16 rfl) rfl rfl hm rfl (ty := .array .int) (by decide +kernel) rfl rfl dX5_init_987 (W2 := [hn_o a 5 [.int 0, .ref q1, .ref q2, .ref q3, .ref q4, .int 0, .int 0, .ref q5, .int 0, .ref q6, .ref q7, .int 0, .int 0, .int 0, .ref q8, .ref q9, .ref q10, .ref q11, .ref q12, .ref q13, .int 0, .int 0, .int 0, .int 0, .ref q14, .ref q15, .int 0, .int 0, .int 0, .null, .null, .null, .null, .int 0, .null, .null, .int 0], hn_ai cI q1 6 (fun _ => 0), hn_ai cI q2 6 (fun _ => 0), hn_ai cI q3 18 (fun _ => 0), hn_ai cI q4 12 (hn_upl hn_taX5_init_33 (fun _ => 0)), hn_ai cI q5 160 (fun _ => 0), hn_ai cI q6 1200 (fun _ => 0), hn_ai cI q7 24 (fun _ => 0), hn_ai cI q8 30 (fun _ => 0), hn_ai cI q9 4 (fun _ => 0), hn_ai cI q10 4 (hn_upl hn_taX5_init_138 (fun _ => 0)), hn_ai cI q11 4 (fun _ => 0), hn_ai cI q12 160 (fun _ => 0), hn_ai cI q13 38 (hn_upl hn_taX5_init_178 (fun _ => 0)), hn_ai cI q14 96 (hn_upl hn_taX5_init_408 (fun _ => 0)), hn_ai cI q15 200 (fun _ => 0)]) rfl ?_
  refine hn_aload_n B 0 dX5_init_990 rfl rfl ?_
  refine hn_sipush B dX5_init_991 rfl ?_
  refine hn_newa B (N := 200) ⟨by decide, by decide, by decide⟩ (wl_2 7 rfl) (Nat.le_of_ble_eq_true rfl) (Nat.le_of_ble_eq_true rfl) dX5_init_994 (fun q16 => ?_)
  refine hn_putF B 0 5 (f := 29) (C := RX5) (T := TX5) (N := 37) rfl tyX5 tyX5_ok nmX5 rfl inlX5 (by decide) (Nat.le_of_ble_eq_true rfl) (wl_4 17 rfl) rfl rfl hm rfl (ty := .array .int) (by decide +kernel) rfl rfl dX5_init_996 (W2 := [hn_o a 5 [.int 0, .ref q1, .ref q2, .ref q3, .ref q4, .int 0, .int 0, .ref q5, .int 0, .ref q6, .ref q7, .int 0, .int 0, .int 0, .ref q8, .ref q9, .ref q10, .ref q11, .ref q12, .ref q13, .int 0, .int 0, .int 0, .int 0, .ref q14, .ref q15, .int 0, .int 0, .int 0, .ref q16, .null, .null, .null, .int 0, .null, .null, .int 0], hn_ai cI q1 6 (fun _ => 0), hn_ai cI q2 6 (fun _ => 0), hn_ai cI q3 18 (fun _ => 0), hn_ai cI q4 12 (hn_upl hn_taX5_init_33 (fun _ => 0)), hn_ai cI q5 160 (fun _ => 0), hn_ai cI q6 1200 (fun _ => 0), hn_ai cI q7 24 (fun _ => 0), hn_ai cI q8 30 (fun _ => 0), hn_ai cI q9 4 (fun _ => 0), hn_ai cI q10 4 (hn_upl hn_taX5_init_138 (fun _ => 0)), hn_ai cI q11 4 (fun _ => 0), hn_ai cI q12 160 (fun _ => 0), hn_ai cI q13 38 (hn_upl hn_taX5_init_178 (fun _ => 0)), hn_ai cI q14 96 (hn_upl hn_taX5_init_408 (fun _ => 0)), hn_ai cI q15 200 (fun _ => 0), hn_ai cI q16 200 (fun _ => 0)]) rfl ?_
  refine hn_aload_n B 0 dX5_init_999 rfl rfl ?_
  refine hn_bipush B dX5_init_1000 rfl ?_
  refine hn_newa B (N := 6) ⟨by decide, by decide, by decide⟩ (wl_2 7 rfl) (Nat.le_of_ble_eq_true rfl) (Nat.le_of_ble_eq_true rfl) dX5_init_1002 (fun q17 => ?_)
  refine hn_putF B 0 5 (f := 30) (C := RX5) (T := TX5) (N := 37) rfl tyX5 tyX5_ok nmX5 rfl inlX5 (by decide) (Nat.le_of_ble_eq_true rfl) (wl_4 18 rfl) rfl rfl hm rfl (ty := .array .int) (by decide +kernel) rfl rfl dX5_init_1004 (W2 := [hn_o a 5 [.int 0, .ref q1, .ref q2, .ref q3, .ref q4, .int 0, .int 0, .ref q5, .int 0, .ref q6, .ref q7, .int 0, .int 0, .int 0, .ref q8, .ref q9, .ref q10, .ref q11, .ref q12, .ref q13, .int 0, .int 0, .int 0, .int 0, .ref q14, .ref q15, .int 0, .int 0, .int 0, .ref q16, .ref q17, .null, .null, .int 0, .null, .null, .int 0], hn_ai cI q1 6 (fun _ => 0), hn_ai cI q2 6 (fun _ => 0), hn_ai cI q3 18 (fun _ => 0), hn_ai cI q4 12 (hn_upl hn_taX5_init_33 (fun _ => 0)), hn_ai cI q5 160 (fun _ => 0), hn_ai cI q6 1200 (fun _ => 0), hn_ai cI q7 24 (fun _ => 0), hn_ai cI q8 30 (fun _ => 0), hn_ai cI q9 4 (fun _ => 0), hn_ai cI q10 4 (hn_upl hn_taX5_init_138 (fun _ => 0)), hn_ai cI q11 4 (fun _ => 0), hn_ai cI q12 160 (fun _ => 0), hn_ai cI q13 38 (hn_upl hn_taX5_init_178 (fun _ => 0)), hn_ai cI q14 96 (hn_upl hn_taX5_init_408 (fun _ => 0)), hn_ai cI q15 200 (fun _ => 0), hn_ai cI q16 200 (fun _ => 0), hn_ai cI q17 6 (fun _ => 0)]) rfl ?_
  refine hn_aload_n B 0 dX5_init_1007 rfl rfl ?_
  refine hn_bipush B dX5_init_1008 rfl ?_
  refine hn_newa B (N := 32) ⟨by decide, by decide, by decide⟩ (wl_2 7 rfl) (Nat.le_of_ble_eq_true rfl) (Nat.le_of_ble_eq_true rfl) dX5_init_1010 (fun q18 => ?_)
  refine hn_putF B 0 5 (f := 31) (C := RX5) (T := TX5) (N := 37) rfl tyX5 tyX5_ok nmX5 rfl inlX5 (by decide) (Nat.le_of_ble_eq_true rfl) (wl_4 19 rfl) rfl rfl hm rfl (ty := .array .int) (by decide +kernel) rfl rfl dX5_init_1012 (W2 := [hn_o a 5 [.int 0, .ref q1, .ref q2, .ref q3, .ref q4, .int 0, .int 0, .ref q5, .int 0, .ref q6, .ref q7, .int 0, .int 0, .int 0, .ref q8, .ref q9, .ref q10, .ref q11, .ref q12, .ref q13, .int 0, .int 0, .int 0, .int 0, .ref q14, .ref q15, .int 0, .int 0, .int 0, .ref q16, .ref q17, .ref q18, .null, .int 0, .null, .null, .int 0], hn_ai cI q1 6 (fun _ => 0), hn_ai cI q2 6 (fun _ => 0), hn_ai cI q3 18 (fun _ => 0), hn_ai cI q4 12 (hn_upl hn_taX5_init_33 (fun _ => 0)), hn_ai cI q5 160 (fun _ => 0), hn_ai cI q6 1200 (fun _ => 0), hn_ai cI q7 24 (fun _ => 0), hn_ai cI q8 30 (fun _ => 0), hn_ai cI q9 4 (fun _ => 0), hn_ai cI q10 4 (hn_upl hn_taX5_init_138 (fun _ => 0)), hn_ai cI q11 4 (fun _ => 0), hn_ai cI q12 160 (fun _ => 0), hn_ai cI q13 38 (hn_upl hn_taX5_init_178 (fun _ => 0)), hn_ai cI q14 96 (hn_upl hn_taX5_init_408 (fun _ => 0)), hn_ai cI q15 200 (fun _ => 0), hn_ai cI q16 200 (fun _ => 0), hn_ai cI q17 6 (fun _ => 0), hn_ai cI q18 32 (fun _ => 0)]) rfl ?_
  refine hn_aload_n B 0 dX5_init_1015 rfl rfl ?_
  refine hn_bipush B dX5_init_1016 rfl ?_
  refine hn_newa B (N := 6) ⟨by decide, by decide, by decide⟩ (wl_2 7 rfl) (Nat.le_of_ble_eq_true rfl) (Nat.le_of_ble_eq_true rfl) dX5_init_1018 (fun q19 => ?_)
  refine hn_putF B 0 5 (f := 32) (C := RX5) (T := TX5) (N := 37) rfl tyX5 tyX5_ok nmX5 rfl inlX5 (by decide) (Nat.le_of_ble_eq_true rfl) (wl_4 20 rfl) rfl rfl hm rfl (ty := .array .int) (by decide +kernel) rfl rfl dX5_init_1020 (W2 := [hn_o a 5 [.int 0, .ref q1, .ref q2, .ref q3, .ref q4, .int 0, .int 0, .ref q5, .int 0, .ref q6, .ref q7, .int 0, .int 0, .int 0, .ref q8, .ref q9, .ref q10, .ref q11, .ref q12, .ref q13, .int 0, .int 0, .int 0, .int 0, .ref q14, .ref q15, .int 0, .int 0, .int 0, .ref q16, .ref q17, .ref q18, .ref q19, .int 0, .null, .null, .int 0], hn_ai cI q1 6 (fun _ => 0), hn_ai cI q2 6 (fun _ => 0), hn_ai cI q3 18 (fun _ => 0), hn_ai cI q4 12 (hn_upl hn_taX5_init_33 (fun _ => 0)), hn_ai cI q5 160 (fun _ => 0), hn_ai cI q6 1200 (fun _ => 0), hn_ai cI q7 24 (fun _ => 0), hn_ai cI q8 30 (fun _ => 0), hn_ai cI q9 4 (fun _ => 0), hn_ai cI q10 4 (hn_upl hn_taX5_init_138 (fun _ => 0)), hn_ai cI q11 4 (fun _ => 0), hn_ai cI q12 160 (fun _ => 0), hn_ai cI q13 38 (hn_upl hn_taX5_init_178 (fun _ => 0)), hn_ai cI q14 96 (hn_upl hn_taX5_init_408 (fun _ => 0)), hn_ai cI q15 200 (fun _ => 0), hn_ai cI q16 200 (fun _ => 0), hn_ai cI q17 6 (fun _ => 0), hn_ai cI q18 32 (fun _ => 0), hn_ai cI q19 6 (fun _ => 0)]) rfl ?_
  refine hn_aload_n B 0 dX5_init_1023 rfl rfl ?_
  refine hn_sipush B dX5_init_1024 rfl ?_
  refine hn_newa B (N := 1000) ⟨by decide, by decide, by decide⟩ (wl_2 7 rfl) (Nat.le_of_ble_eq_true rfl) (Nat.le_of_ble_eq_true rfl) dX5_init_1027 (fun q20 => ?_)
  refine hn_putF B 0 5 (f := 34) (C := RX5) (T := TX5) (N := 37) rfl tyX5 tyX5_ok nmX5 rfl inlX5 (by decide) (Nat.le_of_ble_eq_true rfl) (wl_4 21 rfl) rfl rfl hm rfl (ty := .array .int) (by decide +kernel) rfl rfl dX5_init_1029 (W2 := [hn_o a 5 [.int 0, .ref q1, .ref q2, .ref q3, .ref q4, .int 0, .int 0, .ref q5, .int 0, .ref q6, .ref q7, .int 0, .int 0, .int 0, .ref q8, .ref q9, .ref q10, .ref q11, .ref q12, .ref q13, .int 0, .int 0, .int 0, .int 0, .ref q14, .ref q15, .int 0, .int 0, .int 0, .ref q16, .ref q17, .ref q18, .ref q19, .int 0, .ref q20, .null, .int 0], hn_ai cI q1 6 (fun _ => 0), hn_ai cI q2 6 (fun _ => 0), hn_ai cI q3 18 (fun _ => 0), hn_ai cI q4 12 (hn_upl hn_taX5_init_33 (fun _ => 0)), hn_ai cI q5 160 (fun _ => 0), hn_ai cI q6 1200 (fun _ => 0), hn_ai cI q7 24 (fun _ => 0), hn_ai cI q8 30 (fun _ => 0), hn_ai cI q9 4 (fun _ => 0), hn_ai cI q10 4 (hn_upl hn_taX5_init_138 (fun _ => 0)), hn_ai cI q11 4 (fun _ => 0), hn_ai cI q12 160 (fun _ => 0), hn_ai cI q13 38 (hn_upl hn_taX5_init_178 (fun _ => 0)), hn_ai cI q14 96 (hn_upl hn_taX5_init_408 (fun _ => 0)), hn_ai cI q15 200 (fun _ => 0), hn_ai cI q16 200 (fun _ => 0), hn_ai cI q17 6 (fun _ => 0), hn_ai cI q18 32 (fun _ => 0), hn_ai cI q19 6 (fun _ => 0), hn_ai cI q20 1000 (fun _ => 0)]) rfl ?_
  refine hn_aload_n B 0 dX5_init_1032 rfl rfl ?_
  refine hn_sipush B dX5_init_1033 rfl ?_
  refine hn_newa B (N := 1000) ⟨by decide, by decide, by decide⟩ (wl_2 7 rfl) (Nat.le_of_ble_eq_true rfl) (Nat.le_of_ble_eq_true rfl) dX5_init_1036 (fun q21 => ?_)
  refine hn_putF B 0 5 (f := 35) (C := RX5) (T := TX5) (N := 37) rfl tyX5 tyX5_ok nmX5 rfl inlX5 (by decide) (Nat.le_of_ble_eq_true rfl) (wl_4 22 rfl) rfl rfl hm rfl (ty := .array .int) (by decide +kernel) rfl rfl dX5_init_1038 (W2 := [hn_o a 5 [.int 0, .ref q1, .ref q2, .ref q3, .ref q4, .int 0, .int 0, .ref q5, .int 0, .ref q6, .ref q7, .int 0, .int 0, .int 0, .ref q8, .ref q9, .ref q10, .ref q11, .ref q12, .ref q13, .int 0, .int 0, .int 0, .int 0, .ref q14, .ref q15, .int 0, .int 0, .int 0, .ref q16, .ref q17, .ref q18, .ref q19, .int 0, .ref q20, .ref q21, .int 0], hn_ai cI q1 6 (fun _ => 0), hn_ai cI q2 6 (fun _ => 0), hn_ai cI q3 18 (fun _ => 0), hn_ai cI q4 12 (hn_upl hn_taX5_init_33 (fun _ => 0)), hn_ai cI q5 160 (fun _ => 0), hn_ai cI q6 1200 (fun _ => 0), hn_ai cI q7 24 (fun _ => 0), hn_ai cI q8 30 (fun _ => 0), hn_ai cI q9 4 (fun _ => 0), hn_ai cI q10 4 (hn_upl hn_taX5_init_138 (fun _ => 0)), hn_ai cI q11 4 (fun _ => 0), hn_ai cI q12 160 (fun _ => 0), hn_ai cI q13 38 (hn_upl hn_taX5_init_178 (fun _ => 0)), hn_ai cI q14 96 (hn_upl hn_taX5_init_408 (fun _ => 0)), hn_ai cI q15 200 (fun _ => 0), hn_ai cI q16 200 (fun _ => 0), hn_ai cI q17 6 (fun _ => 0), hn_ai cI q18 32 (fun _ => 0), hn_ai cI q19 6 (fun _ => 0), hn_ai cI q20 1000 (fun _ => 0), hn_ai cI q21 1000 (fun _ => 0)]) rfl ?_
  refine hn_iconst B dX5_init_1041 ?_
  refine hn_istore_n B [(1, .int (hg_I 0)), (0, .ref a)] dX5_init_1042 rfl (by decide) rfl ?_
  show hn_At _ _ _ _ _ _ _ _ _ _ _ _ _ _ [hn_o a 5 [.int 0, .ref q1, .ref q2, .ref q3, .ref q4, .int 0, .int 0, .ref q5, .int 0, .ref q6, .ref q7, .int 0, .int 0, .int 0, .ref q8, .ref q9, .ref q10, .ref q11, .ref q12, .ref q13, .int 0, .int 0, .int 0, .int 0, .ref q14, .ref q15, .int 0, .int 0, .int 0, .ref q16, .ref q17, .ref q18, .ref q19, .int 0, .ref q20, .ref q21, .int 0], hn_ai cI q1 6 (fun _ => 0), hn_ai cI q2 6 (fun _ => 0), hn_ai cI q3 18 (fun _ => 0), hn_ai cI q4 12 (hn_upl hn_taX5_init_33 (fun _ => 0)), hn_ai cI q5 160 (fun _ => 0), hn_ai cI q6 1200 (fun _ => 0), hn_ai cI q7 24 (fun _ => 0), hn_ai cI q8 30 (fun _ => 0), hn_ai cI q9 4 (fun _ => 0), hn_ai cI q10 4 (hn_upl hn_taX5_init_138 (fun _ => 0)), hn_ai cI q11 4 (fun _ => 0), hn_ai cI q12 160 (fun _ => 0), hn_ai cI q13 38 (hn_upl hn_taX5_init_178 (fun _ => 0)), hn_ai cI q14 96 (hn_upl hn_taX5_init_408 (fun _ => 0)), hn_ai cI q15 200 (fun _ => 0), hn_ai cI q16 200 (fun _ => 0), hn_ai cI q17 6 (fun _ => 0), hn_ai cI q18 32 (fun _ => 0), hn_ai cI q19 6 (fun _ => 0), hn_ai cI q20 1000 (fun _ => 0), hn_ai cI q21 1000 (fun _ => 0)] _ _ _ _ _
  refine hn_lpX5 B (by decide) (Wa := [hn_o a 5 [.int 0, .ref q1, .ref q2, .ref q3, .ref q4, .int 0, .int 0, .ref q5, .int 0, .ref q6, .ref q7, .int 0, .int 0, .int 0, .ref q8, .ref q9, .ref q10, .ref q11, .ref q12, .ref q13, .int 0, .int 0, .int 0, .int 0, .ref q14, .ref q15, .int 0, .int 0, .int 0, .ref q16, .ref q17, .ref q18, .ref q19, .int 0, .ref q20, .ref q21, .int 0], hn_ai cI q1 6 (fun _ => 0), hn_ai cI q2 6 (fun _ => 0), hn_ai cI q3 18 (fun _ => 0), hn_ai cI q4 12 (hn_upl hn_taX5_init_33 (fun _ => 0))]) (Wb := [hn_ai cI q6 1200 (fun _ => 0), hn_ai cI q7 24 (fun _ => 0), hn_ai cI q8 30 (fun _ => 0), hn_ai cI q9 4 (fun _ => 0), hn_ai cI q10 4 (hn_upl hn_taX5_init_138 (fun _ => 0)), hn_ai cI q11 4 (fun _ => 0), hn_ai cI q12 160 (fun _ => 0), hn_ai cI q13 38 (hn_upl hn_taX5_init_178 (fun _ => 0)), hn_ai cI q14 96 (hn_upl hn_taX5_init_408 (fun _ => 0)), hn_ai cI q15 200 (fun _ => 0), hn_ai cI q16 200 (fun _ => 0), hn_ai cI q17 6 (fun _ => 0), hn_ai cI q18 32 (fun _ => 0), hn_ai cI q19 6 (fun _ => 0), hn_ai cI q20 1000 (fun _ => 0), hn_ai cI q21 1000 (fun _ => 0)]) (q := q5) (ql := q13) rfl rfl rfl rfl rfl ?_ 38 0 rfl
  show hn_At _ _ _ _ _ _ _ _ _ _ _ _ _ _ [hn_o a 5 [.int 0, .ref q1, .ref q2, .ref q3, .ref q4, .int 0, .int 0, .ref q5, .int 0, .ref q6, .ref q7, .int 0, .int 0, .int 0, .ref q8, .ref q9, .ref q10, .ref q11, .ref q12, .ref q13, .int 0, .int 0, .int 0, .int 0, .ref q14, .ref q15, .int 0, .int 0, .int 0, .ref q16, .ref q17, .ref q18, .ref q19, .int 0, .ref q20, .ref q21, .int 0], hn_ai cI q1 6 (fun _ => 0), hn_ai cI q2 6 (fun _ => 0), hn_ai cI q3 18 (fun _ => 0), hn_ai cI q4 12 (hn_upl hn_taX5_init_33 (fun _ => 0)), hn_ai cI q5 160 (fun j => if j < 38 then (hn_upl hn_taX5_init_178 (fun _ => 0)) j else 0), hn_ai cI q6 1200 (fun _ => 0), hn_ai cI q7 24 (fun _ => 0), hn_ai cI q8 30 (fun _ => 0), hn_ai cI q9 4 (fun _ => 0), hn_ai cI q10 4 (hn_upl hn_taX5_init_138 (fun _ => 0)), hn_ai cI q11 4 (fun _ => 0), hn_ai cI q12 160 (fun _ => 0), hn_ai cI q13 38 (hn_upl hn_taX5_init_178 (fun _ => 0)), hn_ai cI q14 96 (hn_upl hn_taX5_init_408 (fun _ => 0)), hn_ai cI q15 200 (fun _ => 0), hn_ai cI q16 200 (fun _ => 0), hn_ai cI q17 6 (fun _ => 0), hn_ai cI q18 32 (fun _ => 0), hn_ai cI q19 6 (fun _ => 0), hn_ai cI q20 1000 (fun _ => 0), hn_ai cI q21 1000 (fun _ => 0)] _ _ _ _ _
  refine hn_aload_n B 1 dX5_init_1067 rfl rfl ?_
  refine hn_bipush B dX5_init_1068 rfl ?_
  refine hn_put B 0 5 (f := 8) (C := RX5) (T := TX5) (N := 37) rfl tyX5 tyX5_ok nmX5 rfl inlX5 (by decide) (Nat.le_of_ble_eq_true rfl) (wl_4 23 rfl) rfl rfl (ty := .int) (by decide +kernel) rfl rfl dX5_init_1070 (W2 := [hn_o a 5 [.int 0, .ref q1, .ref q2, .ref q3, .ref q4, .int 0, .int 0, .ref q5, .int (hg_I 38), .ref q6, .ref q7, .int 0, .int 0, .int 0, .ref q8, .ref q9, .ref q10, .ref q11, .ref q12, .ref q13, .int 0, .int 0, .int 0, .int 0, .ref q14, .ref q15, .int 0, .int 0, .int 0, .ref q16, .ref q17, .ref q18, .ref q19, .int 0, .ref q20, .ref q21, .int 0], hn_ai cI q1 6 (fun _ => 0), hn_ai cI q2 6 (fun _ => 0), hn_ai cI q3 18 (fun _ => 0), hn_ai cI q4 12 (hn_upl hn_taX5_init_33 (fun _ => 0)), hn_ai cI q5 160 (fun j => if j < 38 then (hn_upl hn_taX5_init_178 (fun _ => 0)) j else 0), hn_ai cI q6 1200 (fun _ => 0), hn_ai cI q7 24 (fun _ => 0), hn_ai cI q8 30 (fun _ => 0), hn_ai cI q9 4 (fun _ => 0), hn_ai cI q10 4 (hn_upl hn_taX5_init_138 (fun _ => 0)), hn_ai cI q11 4 (fun _ => 0), hn_ai cI q12 160 (fun _ => 0), hn_ai cI q13 38 (hn_upl hn_taX5_init_178 (fun _ => 0)), hn_ai cI q14 96 (hn_upl hn_taX5_init_408 (fun _ => 0)), hn_ai cI q15 200 (fun _ => 0), hn_ai cI q16 200 (fun _ => 0), hn_ai cI q17 6 (fun _ => 0), hn_ai cI q18 32 (fun _ => 0), hn_ai cI q19 6 (fun _ => 0), hn_ai cI q20 1000 (fun _ => 0), hn_ai cI q21 1000 (fun _ => 0)]) rfl ?_
  refine hn_aload_n B 1 dX5_init_1073 rfl rfl ?_
  obtain ⟨ad, had⟩ : ∃ ad : Nat → Nat, ad = fun k => ([a, q1, q2, q3, q4, q5, q6, q7, q8, q9, q10, q11, q12, q13, q14, q15, q16, q17, q18, q19, q20, q21] : List Nat).getD k 0 := ⟨_, rfl⟩
  have hcv : ∀ k, k < hg_N 1 → ∃ e, ([hn_o a 5 [.int 0, .ref q1, .ref q2, .ref q3, .ref q4, .int 0, .int 0, .ref q5, .int (hg_I 38), .ref q6, .ref q7, .int 0, .int 0, .int 0, .ref q8, .ref q9, .ref q10, .ref q11, .ref q12, .ref q13, .int 0, .int 0, .int 0, .int 0, .ref q14, .ref q15, .int 0, .int 0, .int 0, .ref q16, .ref q17, .ref q18, .ref q19, .int 0, .ref q20, .ref q21, .int 0], hn_ai cI q1 6 (fun _ => 0), hn_ai cI q2 6 (fun _ => 0), hn_ai cI q3 18 (fun _ => 0), hn_ai cI q4 12 (hn_upl hn_taX5_init_33 (fun _ => 0)), hn_ai cI q5 160 (fun j => if j < 38 then (hn_upl hn_taX5_init_178 (fun _ => 0)) j else 0), hn_ai cI q6 1200 (fun _ => 0), hn_ai cI q7 24 (fun _ => 0), hn_ai cI q8 30 (fun _ => 0), hn_ai cI q9 4 (fun _ => 0), hn_ai cI q10 4 (hn_upl hn_taX5_init_138 (fun _ => 0)), hn_ai cI q11 4 (fun _ => 0), hn_ai cI q12 160 (fun _ => 0), hn_ai cI q13 38 (hn_upl hn_taX5_init_178 (fun _ => 0)), hn_ai cI q14 96 (hn_upl hn_taX5_init_408 (fun _ => 0)), hn_ai cI q15 200 (fun _ => 0), hn_ai cI q16 200 (fun _ => 0), hn_ai cI q17 6 (fun _ => 0), hn_ai cI q18 32 (fun _ => 0), hn_ai cI q19 6 (fun _ => 0), hn_ai cI q20 1000 (fun _ => 0), hn_ai cI q21 1000 (fun _ => 0)] : va_W)[k]? = some (ad k, e) ∧ hn_same e (hg_CE cI cA ad 1 hn_v0 k) := by
    subst had
    intro k hk
    match k, hk with
    | 0, _ => exact ⟨_, rfl, Or.inl rfl⟩
    | 1, _ => exact ⟨_, rfl, hn_ia (fun j hj => rfl)⟩
    | 2, _ => exact ⟨_, rfl, hn_ia (fun j hj => rfl)⟩
    | 3, _ => exact ⟨_, rfl, hn_ia (fun j hj => rfl)⟩
    | 4, _ => exact ⟨_, rfl, hn_ia (by decide +kernel)⟩
    | 5, _ => exact ⟨_, rfl, hn_ia (by decide +kernel)⟩
    | 6, _ => exact ⟨_, rfl, hn_ia (fun j hj => rfl)⟩
    | 7, _ => exact ⟨_, rfl, hn_ia (fun j hj => rfl)⟩
    | 8, _ => exact ⟨_, rfl, hn_ia (fun j hj => rfl)⟩
    | 9, _ => exact ⟨_, rfl, hn_ia (fun j hj => rfl)⟩
    | 10, _ => exact ⟨_, rfl, hn_ia (by decide +kernel)⟩
    | 11, _ => exact ⟨_, rfl, hn_ia (fun j hj => rfl)⟩
    | 12, _ => exact ⟨_, rfl, hn_ia (fun j hj => rfl)⟩
    | 13, _ => exact ⟨_, rfl, hn_ia (by decide +kernel)⟩
    | 14, _ => exact ⟨_, rfl, hn_ia (by decide +kernel)⟩
    | 15, _ => exact ⟨_, rfl, hn_ia (fun j hj => rfl)⟩
    | 16, _ => exact ⟨_, rfl, hn_ia (fun j hj => rfl)⟩
    | 17, _ => exact ⟨_, rfl, hn_ia (fun j hj => rfl)⟩
    | 18, _ => exact ⟨_, rfl, hn_ia (fun j hj => rfl)⟩
    | 19, _ => exact ⟨_, rfl, hn_ia (fun j hj => rfl)⟩
    | 20, _ => exact ⟨_, rfl, hn_ia (fun j hj => rfl)⟩
    | 21, _ => exact ⟨_, rfl, hn_ia (fun j hj => rfl)⟩
    | k + 22, hk => exact absurd hk (by unfold hg_N; simp)
  have ha0 : ad 0 = a := by rw [had]; rfl
  clear had
  refine hn_conv hcv ?_
  rw [← ha0]
  refine hn_calli (o' := 1) (n := 0) (N := 37) (As := []) (st := []) (a := 0) (ci := 5) (C := RX5) (T := TX5) B (fun h => absurd h (by decide)) (nY := 0) rfl (by decide) (by decide) dX5_init_1074 (c_X5_text hv1) (gl_V (wl_5 0 rfl) (wl_5 1 rfl) (wl_5 2 rfl) (wl_1 5 rfl) (wl_5 3 rfl)) rfl ⟨rfl, rfl⟩ ⟨rfl, by decide, by decide, by decide +kernel⟩ ⟨Nat.le_of_ble_eq_true rfl, Nat.le_of_ble_eq_true rfl⟩ ⟨Nat.le_of_ble_eq_true rfl, Nat.le_of_ble_eq_true rfl⟩ (by decide) rfl (by decide) rfl rfl rfl (by decide) ?_
  refine hn_pop B dX5_init_1077 rfl ?_
  refine hn_vret B hr (W2 := hg_CW cI cA ad 1 v1) (List.range 22) (by decide) (hn_mapW hn_CWl) ⟨ad, rfl, rfl⟩ dX5_init_1078 ⟨Nat.le_of_ble_eq_true rfl, Nat.le_of_ble_eq_true rfl⟩
