abbrev vwCl : List vw_C := [(RX0, TX0, 14), (RX1, TX1, 3), (RX2, TX2, 9), (RX3, TX3, 4), (RX4, TX4, 9), (RX5, TX5, 37)]
/-! ===== one list of words for all methods ===== -/
theorem wl_1 {c : Cond} (i : Nat) (h0 : wsL_law_r1[i]? = some c) : c ∈ wsL_law := by
  have h := List.mem_of_getElem? h0
  exact List.mem_append_left _ (List.mem_append_left _ (List.mem_append_left _ (List.mem_append_left _ (List.mem_append_left _ (List.mem_append_left _ (List.mem_append_left _ (List.mem_append_left _ h)))))))
theorem wg_1 : ∀ w ∈ wsL_law_r1, goodWord w = true := List.all_eq_true.mp (by decide +kernel)
theorem wl_2 {c : Cond} (i : Nat) (h0 : wsL_law_r2[i]? = some c) : c ∈ wsL_law := by
  have h := List.mem_of_getElem? h0
  exact List.mem_append_left _ (List.mem_append_left _ (List.mem_append_left _ (List.mem_append_left _ (List.mem_append_left _ (List.mem_append_left _ (List.mem_append_left _ (List.mem_append_right _ (List.mem_append_left _ h))))))))
theorem wg_2 : ∀ w ∈ wsL_law_r2, goodWord w = true := List.all_eq_true.mp (by decide +kernel)
theorem wl_3 {c : Cond} (i : Nat) (h0 : wsL_law_r3[i]? = some c) : c ∈ wsL_law := by
  have h := List.mem_of_getElem? h0
  exact List.mem_append_left _ (List.mem_append_left _ (List.mem_append_left _ (List.mem_append_left _ (List.mem_append_left _ (List.mem_append_left _ (List.mem_append_left _ (List.mem_append_right _ (List.mem_append_right _ (List.mem_append_left _ h)))))))))
theorem wg_3 : ∀ w ∈ wsL_law_r3, goodWord w = true := List.all_eq_true.mp (by decide +kernel)
theorem wl_4 {c : Cond} (i : Nat) (h0 : wsL_law_r4[i]? = some c) : c ∈ wsL_law := by
  have h := List.mem_of_getElem? h0
  exact List.mem_append_left _ (List.mem_append_left _ (List.mem_append_left _ (List.mem_append_left _ (List.mem_append_left _ (List.mem_append_left _ (List.mem_append_left _ (List.mem_append_right _ (List.mem_append_right _ (List.mem_append_right _ (List.mem_append_left _ h))))))))))
theorem wg_4 : ∀ w ∈ wsL_law_r4, goodWord w = true := List.all_eq_true.mp (by decide +kernel)
theorem wl_5 {c : Cond} (i : Nat) (h0 : wsL_law_r5[i]? = some c) : c ∈ wsL_law := by
  have h := List.mem_of_getElem? h0
  exact List.mem_append_left _ (List.mem_append_left _ (List.mem_append_left _ (List.mem_append_left _ (List.mem_append_left _ (List.mem_append_left _ (List.mem_append_left _ (List.mem_append_right _ (List.mem_append_right _ (List.mem_append_right _ (List.mem_append_right _ (List.mem_append_left _ h)))))))))))
theorem wg_5 : ∀ w ∈ wsL_law_r5, goodWord w = true := List.all_eq_true.mp (by decide +kernel)
theorem wl_6 {c : Cond} (i : Nat) (h0 : wsL_law_r6[i]? = some c) : c ∈ wsL_law := by
  have h := List.mem_of_getElem? h0
  exact List.mem_append_left _ (List.mem_append_left _ (List.mem_append_left _ (List.mem_append_left _ (List.mem_append_left _ (List.mem_append_left _ (List.mem_append_left _ (List.mem_append_right _ (List.mem_append_right _ (List.mem_append_right _ (List.mem_append_right _ (List.mem_append_right _ (List.mem_append_left _ h))))))))))))
theorem wg_6 : ∀ w ∈ wsL_law_r6, goodWord w = true := List.all_eq_true.mp (by decide +kernel)
theorem wl_7 {c : Cond} (i : Nat) (h0 : wsL_law_r7[i]? = some c) : c ∈ wsL_law := by
  have h := List.mem_of_getElem? h0
  exact List.mem_append_left _ (List.mem_append_left _ (List.mem_append_left _ (List.mem_append_left _ (List.mem_append_left _ (List.mem_append_left _ (List.mem_append_left _ (List.mem_append_right _ (List.mem_append_right _ (List.mem_append_right _ (List.mem_append_right _ (List.mem_append_right _ (List.mem_append_right _ (List.mem_append_left _ h)))))))))))))
theorem wg_7 : ∀ w ∈ wsL_law_r7, goodWord w = true := List.all_eq_true.mp (by decide +kernel)
theorem wl_8 {c : Cond} (i : Nat) (h0 : wsL_law_r8[i]? = some c) : c ∈ wsL_law := by
  have h := List.mem_of_getElem? h0
  exact List.mem_append_left _ (List.mem_append_left _ (List.mem_append_left _ (List.mem_append_left _ (List.mem_append_left _ (List.mem_append_left _ (List.mem_append_left _ (List.mem_append_right _ (List.mem_append_right _ (List.mem_append_right _ (List.mem_append_right _ (List.mem_append_right _ (List.mem_append_right _ (List.mem_append_right _ (List.mem_append_left _ h))))))))))))))
theorem wg_8 : ∀ w ∈ wsL_law_r8, goodWord w = true := List.all_eq_true.mp (by decide +kernel)
theorem wl_9 {c : Cond} (i : Nat) (h0 : wsL_law_r9[i]? = some c) : c ∈ wsL_law := by
  have h := List.mem_of_getElem? h0
  exact List.mem_append_left _ (List.mem_append_left _ (List.mem_append_left _ (List.mem_append_left _ (List.mem_append_left _ (List.mem_append_left _ (List.mem_append_left _ (List.mem_append_right _ (List.mem_append_right _ (List.mem_append_right _ (List.mem_append_right _ (List.mem_append_right _ (List.mem_append_right _ (List.mem_append_right _ (List.mem_append_right _ (List.mem_append_left _ h)))))))))))))))
theorem wg_9 : ∀ w ∈ wsL_law_r9, goodWord w = true := List.all_eq_true.mp (by decide +kernel)
theorem wl_10 {c : Cond} (i : Nat) (h0 : wsL_law_r10[i]? = some c) : c ∈ wsL_law := by
  have h := List.mem_of_getElem? h0
  exact List.mem_append_left _ (List.mem_append_left _ (List.mem_append_left _ (List.mem_append_left _ (List.mem_append_left _ (List.mem_append_left _ (List.mem_append_left _ (List.mem_append_right _ (List.mem_append_right _ (List.mem_append_right _ (List.mem_append_right _ (List.mem_append_right _ (List.mem_append_right _ (List.mem_append_right _ (List.mem_append_right _ (List.mem_append_right _ (List.mem_append_left _ h))))))))))))))))
theorem wg_10 : ∀ w ∈ wsL_law_r10, goodWord w = true := List.all_eq_true.mp (by decide +kernel)
theorem wl_11 {c : Cond} (i : Nat) (h0 : wsL_law_r11[i]? = some c) : c ∈ wsL_law := by
  have h := List.mem_of_getElem? h0
  exact List.mem_append_left _ (List.mem_append_left _ (List.mem_append_left _ (List.mem_append_left _ (List.mem_append_left _ (List.mem_append_left _ (List.mem_append_left _ (List.mem_append_right _ (List.mem_append_right _ (List.mem_append_right _ (List.mem_append_right _ (List.mem_append_right _ (List.mem_append_right _ (List.mem_append_right _ (List.mem_append_right _ (List.mem_append_right _ (List.mem_append_right _ (List.mem_append_left _ h)))))))))))))))))
theorem wg_11 : ∀ w ∈ wsL_law_r11, goodWord w = true := List.all_eq_true.mp (by decide +kernel)
theorem wl_12 {c : Cond} (i : Nat) (h0 : wsL_law_r12[i]? = some c) : c ∈ wsL_law := by
  have h := List.mem_of_getElem? h0
  exact List.mem_append_left _ (List.mem_append_left _ (List.mem_append_left _ (List.mem_append_left _ (List.mem_append_left _ (List.mem_append_left _ (List.mem_append_left _ (List.mem_append_right _ (List.mem_append_right _ (List.mem_append_right _ (List.mem_append_right _ (List.mem_append_right _ (List.mem_append_right _ (List.mem_append_right _ (List.mem_append_right _ (List.mem_append_right _ (List.mem_append_right _ (List.mem_append_right _ (List.mem_append_left _ h))))))))))))))))))
theorem wg_12 : ∀ w ∈ wsL_law_r12, goodWord w = true := List.all_eq_true.mp (by decide +kernel)
theorem wl_13 {c : Cond} (i : Nat) (h0 : wsL_law_r13[i]? = some c) : c ∈ wsL_law := by
  have h := List.mem_of_getElem? h0
  exact List.mem_append_left _ (List.mem_append_left _ (List.mem_append_left _ (List.mem_append_left _ (List.mem_append_left _ (List.mem_append_left _ (List.mem_append_left _ (List.mem_append_right _ (List.mem_append_right _ (List.mem_append_right _ (List.mem_append_right _ (List.mem_append_right _ (List.mem_append_right _ (List.mem_append_right _ (List.mem_append_right _ (List.mem_append_right _ (List.mem_append_right _ (List.mem_append_right _ (List.mem_append_right _ (List.mem_append_left _ h)))))))))))))))))))
theorem wg_13 : ∀ w ∈ wsL_law_r13, goodWord w = true := List.all_eq_true.mp (by decide +kernel)
theorem wl_14 {c : Cond} (i : Nat) (h0 : wsL_law_r14[i]? = some c) : c ∈ wsL_law := by
  have h := List.mem_of_getElem? h0
  exact List.mem_append_left _ (List.mem_append_left _ (List.mem_append_left _ (List.mem_append_left _ (List.mem_append_left _ (List.mem_append_left _ (List.mem_append_left _ (List.mem_append_right _ (List.mem_append_right _ (List.mem_append_right _ (List.mem_append_right _ (List.mem_append_right _ (List.mem_append_right _ (List.mem_append_right _ (List.mem_append_right _ (List.mem_append_right _ (List.mem_append_right _ (List.mem_append_right _ (List.mem_append_right _ (List.mem_append_right _ (List.mem_append_left _ h))))))))))))))))))))
theorem wg_14 : ∀ w ∈ wsL_law_r14, goodWord w = true := List.all_eq_true.mp (by decide +kernel)
theorem wl_15 {c : Cond} (i : Nat) (h0 : wsL_law_r15[i]? = some c) : c ∈ wsL_law := by
  have h := List.mem_of_getElem? h0
  exact List.mem_append_left _ (List.mem_append_left _ (List.mem_append_left _ (List.mem_append_left _ (List.mem_append_left _ (List.mem_append_left _ (List.mem_append_left _ (List.mem_append_right _ (List.mem_append_right _ (List.mem_append_right _ (List.mem_append_right _ (List.mem_append_right _ (List.mem_append_right _ (List.mem_append_right _ (List.mem_append_right _ (List.mem_append_right _ (List.mem_append_right _ (List.mem_append_right _ (List.mem_append_right _ (List.mem_append_right _ (List.mem_append_right _ (List.mem_append_left _ h)))))))))))))))))))))
theorem wg_15 : ∀ w ∈ wsL_law_r15, goodWord w = true := List.all_eq_true.mp (by decide +kernel)
theorem wl_16 {c : Cond} (i : Nat) (h0 : wsL_law_r16[i]? = some c) : c ∈ wsL_law := by
  have h := List.mem_of_getElem? h0
  exact List.mem_append_left _ (List.mem_append_left _ (List.mem_append_left _ (List.mem_append_left _ (List.mem_append_left _ (List.mem_append_left _ (List.mem_append_left _ (List.mem_append_right _ (List.mem_append_right _ (List.mem_append_right _ (List.mem_append_right _ (List.mem_append_right _ (List.mem_append_right _ (List.mem_append_right _ (List.mem_append_right _ (List.mem_append_right _ (List.mem_append_right _ (List.mem_append_right _ (List.mem_append_right _ (List.mem_append_right _ (List.mem_append_right _ (List.mem_append_right _ (List.mem_append_left _ h))))))))))))))))))))))
theorem wg_16 : ∀ w ∈ wsL_law_r16, goodWord w = true := List.all_eq_true.mp (by decide +kernel)
theorem wl_17 {c : Cond} (i : Nat) (h0 : wsL_law_r17[i]? = some c) : c ∈ wsL_law := by
  have h := List.mem_of_getElem? h0
  exact List.mem_append_left _ (List.mem_append_left _ (List.mem_append_left _ (List.mem_append_left _ (List.mem_append_left _ (List.mem_append_left _ (List.mem_append_left _ (List.mem_append_right _ (List.mem_append_right _ (List.mem_append_right _ (List.mem_append_right _ (List.mem_append_right _ (List.mem_append_right _ (List.mem_append_right _ (List.mem_append_right _ (List.mem_append_right _ (List.mem_append_right _ (List.mem_append_right _ (List.mem_append_right _ (List.mem_append_right _ (List.mem_append_right _ (List.mem_append_right _ (List.mem_append_right _ (List.mem_append_left _ h)))))))))))))))))))))))
theorem wg_17 : ∀ w ∈ wsL_law_r17, goodWord w = true := List.all_eq_true.mp (by decide +kernel)
theorem wl_18 {c : Cond} (i : Nat) (h0 : wsL_law_r18[i]? = some c) : c ∈ wsL_law := by
  have h := List.mem_of_getElem? h0
  exact List.mem_append_left _ (List.mem_append_left _ (List.mem_append_left _ (List.mem_append_left _ (List.mem_append_left _ (List.mem_append_left _ (List.mem_append_left _ (List.mem_append_right _ (List.mem_append_right _ (List.mem_append_right _ (List.mem_append_right _ (List.mem_append_right _ (List.mem_append_right _ (List.mem_append_right _ (List.mem_append_right _ (List.mem_append_right _ (List.mem_append_right _ (List.mem_append_right _ (List.mem_append_right _ (List.mem_append_right _ (List.mem_append_right _ (List.mem_append_right _ (List.mem_append_right _ (List.mem_append_right _ (List.mem_append_left _ h))))))))))))))))))))))))
theorem wg_18 : ∀ w ∈ wsL_law_r18, goodWord w = true := List.all_eq_true.mp (by decide +kernel)
theorem wl_19 {c : Cond} (i : Nat) (h0 : wsL_law_r19[i]? = some c) : c ∈ wsL_law := by
  have h := List.mem_of_getElem? h0
  exact List.mem_append_left _ (List.mem_append_left _ (List.mem_append_left _ (List.mem_append_left _ (List.mem_append_left _ (List.mem_append_left _ (List.mem_append_left _ (List.mem_append_right _ (List.mem_append_right _ (List.mem_append_right _ (List.mem_append_right _ (List.mem_append_right _ (List.mem_append_right _ (List.mem_append_right _ (List.mem_append_right _ (List.mem_append_right _ (List.mem_append_right _ (List.mem_append_right _ (List.mem_append_right _ (List.mem_append_right _ (List.mem_append_right _ (List.mem_append_right _ (List.mem_append_right _ (List.mem_append_right _ (List.mem_append_right _ (List.mem_append_left _ h)))))))))))))))))))))))))
theorem wg_19 : ∀ w ∈ wsL_law_r19, goodWord w = true := List.all_eq_true.mp (by decide +kernel)
theorem wl_20 {c : Cond} (i : Nat) (h0 : wsL_law_r20[i]? = some c) : c ∈ wsL_law := by
  have h := List.mem_of_getElem? h0
  exact List.mem_append_left _ (List.mem_append_left _ (List.mem_append_left _ (List.mem_append_left _ (List.mem_append_left _ (List.mem_append_left _ (List.mem_append_left _ (List.mem_append_right _ (List.mem_append_right _ (List.mem_append_right _ (List.mem_append_right _ (List.mem_append_right _ (List.mem_append_right _ (List.mem_append_right _ (List.mem_append_right _ (List.mem_append_right _ (List.mem_append_right _ (List.mem_append_right _ (List.mem_append_right _ (List.mem_append_right _ (List.mem_append_right _ (List.mem_append_right _ (List.mem_append_right _ (List.mem_append_right _ (List.mem_append_right _ (List.mem_append_right _ (List.mem_append_left _ h))))))))))))))))))))))))))
theorem wg_20 : ∀ w ∈ wsL_law_r20, goodWord w = true := List.all_eq_true.mp (by decide +kernel)
theorem wl_21 {c : Cond} (i : Nat) (h0 : wsL_law_r21[i]? = some c) : c ∈ wsL_law := by
  have h := List.mem_of_getElem? h0
  exact List.mem_append_left _ (List.mem_append_left _ (List.mem_append_left _ (List.mem_append_left _ (List.mem_append_left _ (List.mem_append_left _ (List.mem_append_left _ (List.mem_append_right _ (List.mem_append_right _ (List.mem_append_right _ (List.mem_append_right _ (List.mem_append_right _ (List.mem_append_right _ (List.mem_append_right _ (List.mem_append_right _ (List.mem_append_right _ (List.mem_append_right _ (List.mem_append_right _ (List.mem_append_right _ (List.mem_append_right _ (List.mem_append_right _ (List.mem_append_right _ (List.mem_append_right _ (List.mem_append_right _ (List.mem_append_right _ (List.mem_append_right _ (List.mem_append_right _ (List.mem_append_left _ h)))))))))))))))))))))))))))
theorem wg_21 : ∀ w ∈ wsL_law_r21, goodWord w = true := List.all_eq_true.mp (by decide +kernel)
theorem wl_22 {c : Cond} (i : Nat) (h0 : wsL_law_r22[i]? = some c) : c ∈ wsL_law := by
  have h := List.mem_of_getElem? h0
  exact List.mem_append_left _ (List.mem_append_left _ (List.mem_append_left _ (List.mem_append_left _ (List.mem_append_left _ (List.mem_append_left _ (List.mem_append_left _ (List.mem_append_right _ (List.mem_append_right _ (List.mem_append_right _ (List.mem_append_right _ (List.mem_append_right _ (List.mem_append_right _ (List.mem_append_right _ (List.mem_append_right _ (List.mem_append_right _ (List.mem_append_right _ (List.mem_append_right _ (List.mem_append_right _ (List.mem_append_right _ (List.mem_append_right _ (List.mem_append_right _ (List.mem_append_right _ (List.mem_append_right _ (List.mem_append_right _ (List.mem_append_right _ (List.mem_append_right _ (List.mem_append_right _ (List.mem_append_left _ h))))))))))))))))))))))))))))
theorem wg_22 : ∀ w ∈ wsL_law_r22, goodWord w = true := List.all_eq_true.mp (by decide +kernel)
theorem wl_23 {c : Cond} (i : Nat) (h0 : wsL_law_r23[i]? = some c) : c ∈ wsL_law := by
  have h := List.mem_of_getElem? h0
  exact List.mem_append_left _ (List.mem_append_left _ (List.mem_append_left _ (List.mem_append_left _ (List.mem_append_left _ (List.mem_append_left _ (List.mem_append_left _ (List.mem_append_right _ (List.mem_append_right _ (List.mem_append_right _ (List.mem_append_right _ (List.mem_append_right _ (List.mem_append_right _ (List.mem_append_right _ (List.mem_append_right _ (List.mem_append_right _ (List.mem_append_right _ (List.mem_append_right _ (List.mem_append_right _ (List.mem_append_right _ (List.mem_append_right _ (List.mem_append_right _ (List.mem_append_right _ (List.mem_append_right _ (List.mem_append_right _ (List.mem_append_right _ (List.mem_append_right _ (List.mem_append_right _ (List.mem_append_right _ (List.mem_append_left _ h)))))))))))))))))))))))))))))
theorem wg_23 : ∀ w ∈ wsL_law_r23, goodWord w = true := List.all_eq_true.mp (by decide +kernel)
theorem wl_24 {c : Cond} (i : Nat) (h0 : wsL_law_r24[i]? = some c) : c ∈ wsL_law := by
  have h := List.mem_of_getElem? h0
  exact List.mem_append_left _ (List.mem_append_left _ (List.mem_append_left _ (List.mem_append_left _ (List.mem_append_left _ (List.mem_append_left _ (List.mem_append_left _ (List.mem_append_right _ (List.mem_append_right _ (List.mem_append_right _ (List.mem_append_right _ (List.mem_append_right _ (List.mem_append_right _ (List.mem_append_right _ (List.mem_append_right _ (List.mem_append_right _ (List.mem_append_right _ (List.mem_append_right _ (List.mem_append_right _ (List.mem_append_right _ (List.mem_append_right _ (List.mem_append_right _ (List.mem_append_right _ (List.mem_append_right _ (List.mem_append_right _ (List.mem_append_right _ (List.mem_append_right _ (List.mem_append_right _ (List.mem_append_right _ (List.mem_append_right _ (List.mem_append_left _ h))))))))))))))))))))))))))))))
theorem wg_24 : ∀ w ∈ wsL_law_r24, goodWord w = true := List.all_eq_true.mp (by decide +kernel)
theorem wl_25 {c : Cond} (i : Nat) (h0 : wsL_law_r25[i]? = some c) : c ∈ wsL_law := by
  have h := List.mem_of_getElem? h0
  exact List.mem_append_left _ (List.mem_append_left _ (List.mem_append_left _ (List.mem_append_left _ (List.mem_append_left _ (List.mem_append_left _ (List.mem_append_left _ (List.mem_append_right _ (List.mem_append_right _ (List.mem_append_right _ (List.mem_append_right _ (List.mem_append_right _ (List.mem_append_right _ (List.mem_append_right _ (List.mem_append_right _ (List.mem_append_right _ (List.mem_append_right _ (List.mem_append_right _ (List.mem_append_right _ (List.mem_append_right _ (List.mem_append_right _ (List.mem_append_right _ (List.mem_append_right _ (List.mem_append_right _ (List.mem_append_right _ (List.mem_append_right _ (List.mem_append_right _ (List.mem_append_right _ (List.mem_append_right _ (List.mem_append_right _ (List.mem_append_right _ (List.mem_append_left _ h)))))))))))))))))))))))))))))))
theorem wg_25 : ∀ w ∈ wsL_law_r25, goodWord w = true := List.all_eq_true.mp (by decide +kernel)
theorem wl_26 {c : Cond} (i : Nat) (h0 : wsL_law_r26[i]? = some c) : c ∈ wsL_law := by
  have h := List.mem_of_getElem? h0
  exact List.mem_append_left _ (List.mem_append_left _ (List.mem_append_left _ (List.mem_append_left _ (List.mem_append_left _ (List.mem_append_left _ (List.mem_append_left _ (List.mem_append_right _ (List.mem_append_right _ (List.mem_append_right _ (List.mem_append_right _ (List.mem_append_right _ (List.mem_append_right _ (List.mem_append_right _ (List.mem_append_right _ (List.mem_append_right _ (List.mem_append_right _ (List.mem_append_right _ (List.mem_append_right _ (List.mem_append_right _ (List.mem_append_right _ (List.mem_append_right _ (List.mem_append_right _ (List.mem_append_right _ (List.mem_append_right _ (List.mem_append_right _ (List.mem_append_right _ (List.mem_append_right _ (List.mem_append_right _ (List.mem_append_right _ (List.mem_append_right _ (List.mem_append_right _ (List.mem_append_left _ h))))))))))))))))))))))))))))))))
theorem wg_26 : ∀ w ∈ wsL_law_r26, goodWord w = true := List.all_eq_true.mp (by decide +kernel)
theorem wl_27 {c : Cond} (i : Nat) (h0 : wsL_law_r27[i]? = some c) : c ∈ wsL_law := by
  have h := List.mem_of_getElem? h0
  exact List.mem_append_left _ (List.mem_append_left _ (List.mem_append_left _ (List.mem_append_left _ (List.mem_append_left _ (List.mem_append_left _ (List.mem_append_left _ (List.mem_append_right _ (List.mem_append_right _ (List.mem_append_right _ (List.mem_append_right _ (List.mem_append_right _ (List.mem_append_right _ (List.mem_append_right _ (List.mem_append_right _ (List.mem_append_right _ (List.mem_append_right _ (List.mem_append_right _ (List.mem_append_right _ (List.mem_append_right _ (List.mem_append_right _ (List.mem_append_right _ (List.mem_append_right _ (List.mem_append_right _ (List.mem_append_right _ (List.mem_append_right _ (List.mem_append_right _ (List.mem_append_right _ (List.mem_append_right _ (List.mem_append_right _ (List.mem_append_right _ (List.mem_append_right _ (List.mem_append_right _ (List.mem_append_left _ h)))))))))))))))))))))))))))))))))
theorem wg_27 : ∀ w ∈ wsL_law_r27, goodWord w = true := List.all_eq_true.mp (by decide +kernel)
theorem wl_28 {c : Cond} (i : Nat) (h0 : wsL_law_r28[i]? = some c) : c ∈ wsL_law := by
  have h := List.mem_of_getElem? h0
  exact List.mem_append_left _ (List.mem_append_left _ (List.mem_append_left _ (List.mem_append_left _ (List.mem_append_left _ (List.mem_append_left _ (List.mem_append_left _ (List.mem_append_right _ (List.mem_append_right _ (List.mem_append_right _ (List.mem_append_right _ (List.mem_append_right _ (List.mem_append_right _ (List.mem_append_right _ (List.mem_append_right _ (List.mem_append_right _ (List.mem_append_right _ (List.mem_append_right _ (List.mem_append_right _ (List.mem_append_right _ (List.mem_append_right _ (List.mem_append_right _ (List.mem_append_right _ (List.mem_append_right _ (List.mem_append_right _ (List.mem_append_right _ (List.mem_append_right _ (List.mem_append_right _ (List.mem_append_right _ (List.mem_append_right _ (List.mem_append_right _ (List.mem_append_right _ (List.mem_append_right _ (List.mem_append_right _ (List.mem_append_left _ h))))))))))))))))))))))))))))))))))
theorem wg_28 : ∀ w ∈ wsL_law_r28, goodWord w = true := List.all_eq_true.mp (by decide +kernel)
theorem wl_29 {c : Cond} (i : Nat) (h0 : wsL_law_r29[i]? = some c) : c ∈ wsL_law := by
  have h := List.mem_of_getElem? h0
  exact List.mem_append_left _ (List.mem_append_left _ (List.mem_append_left _ (List.mem_append_left _ (List.mem_append_left _ (List.mem_append_left _ (List.mem_append_left _ (List.mem_append_right _ (List.mem_append_right _ (List.mem_append_right _ (List.mem_append_right _ (List.mem_append_right _ (List.mem_append_right _ (List.mem_append_right _ (List.mem_append_right _ (List.mem_append_right _ (List.mem_append_right _ (List.mem_append_right _ (List.mem_append_right _ (List.mem_append_right _ (List.mem_append_right _ (List.mem_append_right _ (List.mem_append_right _ (List.mem_append_right _ (List.mem_append_right _ (List.mem_append_right _ (List.mem_append_right _ (List.mem_append_right _ (List.mem_append_right _ (List.mem_append_right _ (List.mem_append_right _ (List.mem_append_right _ (List.mem_append_right _ (List.mem_append_right _ (List.mem_append_right _ (List.mem_append_left _ h)))))))))))))))))))))))))))))))))))
theorem wg_29 : ∀ w ∈ wsL_law_r29, goodWord w = true := List.all_eq_true.mp (by decide +kernel)
theorem wl_30 {c : Cond} (i : Nat) (h0 : wsL_law_r30[i]? = some c) : c ∈ wsL_law := by
  have h := List.mem_of_getElem? h0
  exact List.mem_append_left _ (List.mem_append_left _ (List.mem_append_left _ (List.mem_append_left _ (List.mem_append_left _ (List.mem_append_left _ (List.mem_append_left _ (List.mem_append_right _ (List.mem_append_right _ (List.mem_append_right _ (List.mem_append_right _ (List.mem_append_right _ (List.mem_append_right _ (List.mem_append_right _ (List.mem_append_right _ (List.mem_append_right _ (List.mem_append_right _ (List.mem_append_right _ (List.mem_append_right _ (List.mem_append_right _ (List.mem_append_right _ (List.mem_append_right _ (List.mem_append_right _ (List.mem_append_right _ (List.mem_append_right _ (List.mem_append_right _ (List.mem_append_right _ (List.mem_append_right _ (List.mem_append_right _ (List.mem_append_right _ (List.mem_append_right _ (List.mem_append_right _ (List.mem_append_right _ (List.mem_append_right _ (List.mem_append_right _ (List.mem_append_right _ (List.mem_append_left _ h))))))))))))))))))))))))))))))))))))
theorem wg_30 : ∀ w ∈ wsL_law_r30, goodWord w = true := List.all_eq_true.mp (by decide +kernel)
theorem wl_31 {c : Cond} (i : Nat) (h0 : wsL_law_r31[i]? = some c) : c ∈ wsL_law := by
  have h := List.mem_of_getElem? h0
  exact List.mem_append_left _ (List.mem_append_left _ (List.mem_append_left _ (List.mem_append_left _ (List.mem_append_left _ (List.mem_append_left _ (List.mem_append_left _ (List.mem_append_right _ (List.mem_append_right _ (List.mem_append_right _ (List.mem_append_right _ (List.mem_append_right _ (List.mem_append_right _ (List.mem_append_right _ (List.mem_append_right _ (List.mem_append_right _ (List.mem_append_right _ (List.mem_append_right _ (List.mem_append_right _ (List.mem_append_right _ (List.mem_append_right _ (List.mem_append_right _ (List.mem_append_right _ (List.mem_append_right _ (List.mem_append_right _ (List.mem_append_right _ (List.mem_append_right _ (List.mem_append_right _ (List.mem_append_right _ (List.mem_append_right _ (List.mem_append_right _ (List.mem_append_right _ (List.mem_append_right _ (List.mem_append_right _ (List.mem_append_right _ (List.mem_append_right _ (List.mem_append_right _ (List.mem_append_left _ h)))))))))))))))))))))))))))))))))))))
theorem wg_31 : ∀ w ∈ wsL_law_r31, goodWord w = true := List.all_eq_true.mp (by decide +kernel)
theorem wl_32 {c : Cond} (i : Nat) (h0 : wsL_law_r32[i]? = some c) : c ∈ wsL_law := by
  have h := List.mem_of_getElem? h0
  exact List.mem_append_left _ (List.mem_append_left _ (List.mem_append_left _ (List.mem_append_left _ (List.mem_append_left _ (List.mem_append_left _ (List.mem_append_left _ (List.mem_append_right _ (List.mem_append_right _ (List.mem_append_right _ (List.mem_append_right _ (List.mem_append_right _ (List.mem_append_right _ (List.mem_append_right _ (List.mem_append_right _ (List.mem_append_right _ (List.mem_append_right _ (List.mem_append_right _ (List.mem_append_right _ (List.mem_append_right _ (List.mem_append_right _ (List.mem_append_right _ (List.mem_append_right _ (List.mem_append_right _ (List.mem_append_right _ (List.mem_append_right _ (List.mem_append_right _ (List.mem_append_right _ (List.mem_append_right _ (List.mem_append_right _ (List.mem_append_right _ (List.mem_append_right _ (List.mem_append_right _ (List.mem_append_right _ (List.mem_append_right _ (List.mem_append_right _ (List.mem_append_right _ (List.mem_append_right _ (List.mem_append_left _ h))))))))))))))))))))))))))))))))))))))
theorem wg_32 : ∀ w ∈ wsL_law_r32, goodWord w = true := List.all_eq_true.mp (by decide +kernel)
theorem wl_33 {c : Cond} (i : Nat) (h0 : wsL_law_r33[i]? = some c) : c ∈ wsL_law := by
  have h := List.mem_of_getElem? h0
  exact List.mem_append_left _ (List.mem_append_left _ (List.mem_append_left _ (List.mem_append_left _ (List.mem_append_left _ (List.mem_append_left _ (List.mem_append_left _ (List.mem_append_right _ (List.mem_append_right _ (List.mem_append_right _ (List.mem_append_right _ (List.mem_append_right _ (List.mem_append_right _ (List.mem_append_right _ (List.mem_append_right _ (List.mem_append_right _ (List.mem_append_right _ (List.mem_append_right _ (List.mem_append_right _ (List.mem_append_right _ (List.mem_append_right _ (List.mem_append_right _ (List.mem_append_right _ (List.mem_append_right _ (List.mem_append_right _ (List.mem_append_right _ (List.mem_append_right _ (List.mem_append_right _ (List.mem_append_right _ (List.mem_append_right _ (List.mem_append_right _ (List.mem_append_right _ (List.mem_append_right _ (List.mem_append_right _ (List.mem_append_right _ (List.mem_append_right _ (List.mem_append_right _ (List.mem_append_right _ (List.mem_append_right _ (List.mem_append_left _ h)))))))))))))))))))))))))))))))))))))))
theorem wg_33 : ∀ w ∈ wsL_law_r33, goodWord w = true := List.all_eq_true.mp (by decide +kernel)
theorem wl_34 {c : Cond} (i : Nat) (h0 : wsL_law_r34[i]? = some c) : c ∈ wsL_law := by
  have h := List.mem_of_getElem? h0
  exact List.mem_append_left _ (List.mem_append_left _ (List.mem_append_left _ (List.mem_append_left _ (List.mem_append_left _ (List.mem_append_left _ (List.mem_append_left _ (List.mem_append_right _ (List.mem_append_right _ (List.mem_append_right _ (List.mem_append_right _ (List.mem_append_right _ (List.mem_append_right _ (List.mem_append_right _ (List.mem_append_right _ (List.mem_append_right _ (List.mem_append_right _ (List.mem_append_right _ (List.mem_append_right _ (List.mem_append_right _ (List.mem_append_right _ (List.mem_append_right _ (List.mem_append_right _ (List.mem_append_right _ (List.mem_append_right _ (List.mem_append_right _ (List.mem_append_right _ (List.mem_append_right _ (List.mem_append_right _ (List.mem_append_right _ (List.mem_append_right _ (List.mem_append_right _ (List.mem_append_right _ (List.mem_append_right _ (List.mem_append_right _ (List.mem_append_right _ (List.mem_append_right _ (List.mem_append_right _ (List.mem_append_right _ (List.mem_append_right _ (List.mem_append_left _ h))))))))))))))))))))))))))))))))))))))))
theorem wg_34 : ∀ w ∈ wsL_law_r34, goodWord w = true := List.all_eq_true.mp (by decide +kernel)
theorem wl_35 {c : Cond} (i : Nat) (h0 : wsL_law_r35[i]? = some c) : c ∈ wsL_law := by
  have h := List.mem_of_getElem? h0
  exact List.mem_append_left _ (List.mem_append_left _ (List.mem_append_left _ (List.mem_append_left _ (List.mem_append_left _ (List.mem_append_left _ (List.mem_append_left _ (List.mem_append_right _ (List.mem_append_right _ (List.mem_append_right _ (List.mem_append_right _ (List.mem_append_right _ (List.mem_append_right _ (List.mem_append_right _ (List.mem_append_right _ (List.mem_append_right _ (List.mem_append_right _ (List.mem_append_right _ (List.mem_append_right _ (List.mem_append_right _ (List.mem_append_right _ (List.mem_append_right _ (List.mem_append_right _ (List.mem_append_right _ (List.mem_append_right _ (List.mem_append_right _ (List.mem_append_right _ (List.mem_append_right _ (List.mem_append_right _ (List.mem_append_right _ (List.mem_append_right _ (List.mem_append_right _ (List.mem_append_right _ (List.mem_append_right _ (List.mem_append_right _ (List.mem_append_right _ (List.mem_append_right _ (List.mem_append_right _ (List.mem_append_right _ (List.mem_append_right _ (List.mem_append_right _ (List.mem_append_left _ h)))))))))))))))))))))))))))))))))))))))))
theorem wg_35 : ∀ w ∈ wsL_law_r35, goodWord w = true := List.all_eq_true.mp (by decide +kernel)
theorem wl_36 {c : Cond} (i : Nat) (h0 : wsL_law_r36[i]? = some c) : c ∈ wsL_law := by
  have h := List.mem_of_getElem? h0
  exact List.mem_append_left _ (List.mem_append_left _ (List.mem_append_left _ (List.mem_append_left _ (List.mem_append_left _ (List.mem_append_left _ (List.mem_append_left _ (List.mem_append_right _ (List.mem_append_right _ (List.mem_append_right _ (List.mem_append_right _ (List.mem_append_right _ (List.mem_append_right _ (List.mem_append_right _ (List.mem_append_right _ (List.mem_append_right _ (List.mem_append_right _ (List.mem_append_right _ (List.mem_append_right _ (List.mem_append_right _ (List.mem_append_right _ (List.mem_append_right _ (List.mem_append_right _ (List.mem_append_right _ (List.mem_append_right _ (List.mem_append_right _ (List.mem_append_right _ (List.mem_append_right _ (List.mem_append_right _ (List.mem_append_right _ (List.mem_append_right _ (List.mem_append_right _ (List.mem_append_right _ (List.mem_append_right _ (List.mem_append_right _ (List.mem_append_right _ (List.mem_append_right _ (List.mem_append_right _ (List.mem_append_right _ (List.mem_append_right _ (List.mem_append_right _ (List.mem_append_right _ (h))))))))))))))))))))))))))))))))))))))))))
theorem wg_36 : ∀ w ∈ wsL_law_r36, goodWord w = true := List.all_eq_true.mp (by decide +kernel)
theorem wg_X0 : ∀ w ∈ wsX00, goodWord w = true := List.all_eq_true.mp (by decide +kernel)
theorem wg_X1 : ∀ w ∈ wsX10, goodWord w = true := List.all_eq_true.mp (by decide +kernel)
theorem wg_X2 : ∀ w ∈ wsX20, goodWord w = true := List.all_eq_true.mp (by decide +kernel)
theorem wg_X3 : ∀ w ∈ wsX30, goodWord w = true := List.all_eq_true.mp (by decide +kernel)
theorem wg_X4 : ∀ w ∈ wsX40, goodWord w = true := List.all_eq_true.mp (by decide +kernel)
theorem wg_X5 : ∀ w ∈ wsX50, goodWord w = true := List.all_eq_true.mp (by decide +kernel)
theorem wsL_good : ∀ w ∈ wsL_law, goodWord w = true := List.forall_mem_append.mpr ⟨List.forall_mem_append.mpr ⟨List.forall_mem_append.mpr ⟨List.forall_mem_append.mpr ⟨List.forall_mem_append.mpr ⟨List.forall_mem_append.mpr ⟨List.forall_mem_append.mpr ⟨List.forall_mem_append.mpr ⟨wg_1, List.forall_mem_append.mpr ⟨wg_2, List.forall_mem_append.mpr ⟨wg_3, List.forall_mem_append.mpr ⟨wg_4, List.forall_mem_append.mpr ⟨wg_5, List.forall_mem_append.mpr ⟨wg_6, List.forall_mem_append.mpr ⟨wg_7, List.forall_mem_append.mpr ⟨wg_8, List.forall_mem_append.mpr ⟨wg_9, List.forall_mem_append.mpr ⟨wg_10, List.forall_mem_append.mpr ⟨wg_11, List.forall_mem_append.mpr ⟨wg_12, List.forall_mem_append.mpr ⟨wg_13, List.forall_mem_append.mpr ⟨wg_14, List.forall_mem_append.mpr ⟨wg_15, List.forall_mem_append.mpr ⟨wg_16, List.forall_mem_append.mpr ⟨wg_17, List.forall_mem_append.mpr ⟨wg_18, List.forall_mem_append.mpr ⟨wg_19, List.forall_mem_append.mpr ⟨wg_20, List.forall_mem_append.mpr ⟨wg_21, List.forall_mem_append.mpr ⟨wg_22, List.forall_mem_append.mpr ⟨wg_23, List.forall_mem_append.mpr ⟨wg_24, List.forall_mem_append.mpr ⟨wg_25, List.forall_mem_append.mpr ⟨wg_26, List.forall_mem_append.mpr ⟨wg_27, List.forall_mem_append.mpr ⟨wg_28, List.forall_mem_append.mpr ⟨wg_29, List.forall_mem_append.mpr ⟨wg_30, List.forall_mem_append.mpr ⟨wg_31, List.forall_mem_append.mpr ⟨wg_32, List.forall_mem_append.mpr ⟨wg_33, List.forall_mem_append.mpr ⟨wg_34, List.forall_mem_append.mpr ⟨wg_35, wg_36⟩⟩⟩⟩⟩⟩⟩⟩⟩⟩⟩⟩⟩⟩⟩⟩⟩⟩⟩⟩⟩⟩⟩⟩⟩⟩⟩⟩⟩⟩⟩⟩⟩⟩⟩, wg_X4⟩, wg_X5⟩, wg_X3⟩, wg_X2⟩, wg_X0⟩, wg_X1⟩, fun _ h => absurd h List.not_mem_nil⟩
theorem gl_0 {y : MethodName} {b : ByteArray} {n : Nat} {r : Option FieldType} (h : Cond.code y b n r ∈ wsL_law) : GoodIn wsL_law (Cond.code y b n r :: wsL_law) := by
  intro w hw
  rcases List.mem_cons.mp hw with rfl | hw
  · exact ⟨h, good_of_word (wsL_good _ h)⟩
  · exact ⟨hw, good_of_word (wsL_good _ hw)⟩
theorem gl_m {w : Cond} (h : w ∈ wsL_law) : w ∈ wsL_law ∧ ((w.onTables && w.keeps) = true ∨ ∃ ty, w = .arrayClass ty) := ⟨h, good_of_word (wsL_good _ h)⟩
theorem gl_V {own C : String} {idx : Nat} {y : MethodName} {b : ByteArray} {n : Nat} {r : Option FieldType} (h1 : Cond.methodLink own idx y ∈ wsL_law) (h2 : Cond.instanceMethod y ∈ wsL_law) (h3 : Cond.selects C y y ∈ wsL_law) (h4 : Cond.initialized C ∈ wsL_law) (h : Cond.code y b n r ∈ wsL_law) : GoodIn wsL_law (wsV own idx C y (Cond.code y b n r :: wsL_law)) := by
  intro w hw
  unfold wsV at hw
  rcases List.mem_append.mp hw with hw | hw
  · simp only [List.mem_cons, List.not_mem_nil, or_false] at hw
    rcases hw with rfl | rfl | rfl | rfl
    · exact gl_m h1
    · exact gl_m h2
    · exact gl_m h3
    · exact gl_m h4
  · exact gl_0 h w hw
theorem gl_S {own : String} {idx : Nat} {y : MethodName} {b : ByteArray} {n : Nat} {r : Option FieldType} (h1 : Cond.methodLink own idx y ∈ wsL_law) (h2 : Cond.static y ∈ wsL_law) (h4 : Cond.initialized y.cls ∈ wsL_law) (h : Cond.code y b n r ∈ wsL_law) : GoodIn wsL_law (va_wsS own idx y (Cond.code y b n r :: wsL_law)) := by
  intro w hw
  unfold va_wsS at hw
  rcases List.mem_append.mp hw with hw | hw
  · simp only [List.mem_cons, List.not_mem_nil, or_false] at hw
    rcases hw with rfl | rfl | rfl
    · exact gl_m h1
    · exact gl_m h2
    · exact gl_m h4
  · exact gl_0 h w hw
/-! ===== ints as Int: a cell holds any Int, read by its 32 (64) lowest bits ===== -/
abbrev hg_W : Type := Nat → Nat → Int
def hg_I (x : Int) : Int32 := Int32.ofInt x
def hg_J (x : Int) : Int64 := Int64.ofInt x
def wr (x : Int) : Int := (hg_I x).toInt
def wl (x : Int) : Int := (hg_J x).toInt
theorem wr_bmod (x : Int) : wr x = Int.bmod x 4294967296 := Int32.toInt_ofInt
theorem wl_bmod (x : Int) : wl x = Int.bmod x 18446744073709551616 := Int64.toInt_ofInt
theorem wr_id {x : Int} (h1 : -2147483648 ≤ x) (h2 : x < 2147483648) : wr x = x := Int32.toInt_ofInt_of_le h1 h2
theorem wl_id {x : Int} (h1 : -9223372036854775808 ≤ x) (h2 : x < 9223372036854775808) : wl x = x := Int64.toInt_ofInt_of_le h1 h2
theorem wr_ge (x : Int) : -2147483648 ≤ wr x := (hg_I x).le_toInt
theorem wr_lt (x : Int) : wr x < 2147483648 := (hg_I x).toInt_lt
theorem wr_wr (x : Int) : wr (wr x) = wr x := wr_id (wr_ge x) (wr_lt x)
theorem hg_I_wr (x : Int) : hg_I (wr x) = hg_I x := Int32.ofInt_toInt _
theorem hg_I_of {x : Int} {v : Int32} (h : v.toInt = x) : v = hg_I x := by rw [← h]; exact (Int32.ofInt_toInt v).symm
theorem hg_J_of {x : Int} {v : Int64} (h : v.toInt = x) : v = hg_J x := by rw [← h]; exact (Int64.ofInt_toInt v).symm
theorem hg_I_toInt (v : Int32) : hg_I v.toInt = v := Int32.ofInt_toInt v
theorem hg_J_toInt (v : Int64) : hg_J v.toInt = v := Int64.ofInt_toInt v
theorem hg_I_inj {x y : Int} : hg_I x = hg_I y ↔ wr x = wr y := ⟨fun h => congrArg Int32.toInt h, fun h => Int32.toInt_inj.mp h⟩
theorem hg_J_inj {x y : Int} : hg_J x = hg_J y ↔ wl x = wl y := ⟨fun h => congrArg Int64.toInt h, fun h => Int64.toInt_inj.mp h⟩
theorem hg_I_0 {x : Int} : hg_I x = 0 ↔ wr x = 0 := ⟨fun h => by show (hg_I x).toInt = 0; rw [h]; rfl, fun h => Int32.toInt_inj.mp (by show wr x = _; rw [h]; rfl)⟩
theorem hg_J_0 {x : Int} : hg_J x = 0 ↔ wl x = 0 := ⟨fun h => by show (hg_J x).toInt = 0; rw [h]; rfl, fun h => Int64.toInt_inj.mp (by show wl x = _; rw [h]; rfl)⟩
theorem hg_I_lt {x y : Int} : hg_I x < hg_I y ↔ wr x < wr y := Int32.lt_iff_toInt_lt
theorem hg_I_le {x y : Int} : hg_I x ≤ hg_I y ↔ wr x ≤ wr y := Int32.le_iff_toInt_le
theorem hg_I_add (x y : Int) : hg_I (x + y) = hg_I x + hg_I y := Int32.ofInt_add x y
theorem hg_I_sub (x y : Int) : hg_I (x - y) = hg_I x - hg_I y := Int32.ofInt_sub x y
theorem hg_I_mul (x y : Int) : hg_I (x * y) = hg_I x * hg_I y := Int32.ofInt_mul x y
theorem hg_I_neg (x : Int) : hg_I (-x) = -hg_I x := Int32.ofInt_neg x
theorem hg_J_add (x y : Int) : hg_J (x + y) = hg_J x + hg_J y := Int64.ofInt_add x y
theorem hg_J_mul (x y : Int) : hg_J (x * y) = hg_J x * hg_J y := Int64.ofInt_mul x y
def hg_dv (x y : Int) : Int := (hg_I x / hg_I y).toInt
def hg_rm (x y : Int) : Int := (hg_I x - hg_I x / hg_I y * hg_I y).toInt
def hg_shl (x y : Int) : Int := (hg_I x <<< (hg_I y &&& 31)).toInt
def hg_shr (x y : Int) : Int := (hg_I x >>> (hg_I y &&& 31)).toInt
def hg_and (x y : Int) : Int := (hg_I x &&& hg_I y).toInt
def hg_or (x y : Int) : Int := (hg_I x ||| hg_I y).toInt
def hg_ldv (x y : Int) : Int := (hg_J x / hg_J y).toInt
def hg_lrm (x y : Int) : Int := (hg_J x - hg_J x / hg_J y * hg_J y).toInt
def hg_i2b (x : Int) : Int := (hg_I x).toInt8.toInt32.toInt
def hg_i2s (x : Int) : Int := (hg_I x).toInt16.toInt32.toInt
def hg_lcmp (x y : Int) : Int := if wl y < wl x then 1 else if wl x = wl y then 0 else -1
def hg_mx (x y : Int) : Int := if wr x < wr y then y else x
def hg_mn (x y : Int) : Int := if wr y < wr x then y else x
/-! ===== the cells: of the class (o = 0) and of the reference (o = 1) ===== -/
def hg_kd (o c : Nat) : Nat := (if o = 0 then [4, 3, 7, 6, 6, 6, 6, 6, 6, 7, 6, 6, 6, 6, 6, 6, 6, 2, 6, 0, 6, 6, 6, 6, 6, 6, 6, 6, 0, 6, 6, 6, 6, 6, 6, 6, 6, 0, 6, 6, 6, 6, 6, 6, 6, 6, 1, 6, 6, 7, 6, 6, 6, 6, 6, 6] else [5, 6, 6, 6, 6, 6, 6, 6, 6, 6, 6, 6, 6, 6, 6, 6, 6, 6, 6, 6, 6, 6]).getD c 8
def hg_ln (o c : Nat) : Nat := (if o = 0 then [0, 0, 0, 160, 160, 160, 160, 160, 160, 0, 3, 3, 3, 3, 3, 3, 40, 0, 160, 0, 6, 6, 6, 6, 6, 6, 6, 6, 0, 6, 6, 6, 6, 6, 6, 6, 6, 0, 6, 6, 6, 6, 6, 6, 6, 6, 0, 4, 4, 0, 40, 40, 40, 40, 1000, 6] else [0, 6, 6, 18, 12, 160, 1200, 24, 30, 4, 4, 4, 160, 38, 96, 200, 200, 6, 32, 6, 1000, 1000]).getD c 0
def hg_lq (o c : Nat) : Nat := (if o = 0 then [0, 0, 6, 0, 0, 0, 0, 0, 0, 6, 0, 0, 0, 0, 0, 0, 0, 0, 0, 0, 0, 0, 0, 0, 0, 0, 0, 0, 0, 0, 0, 0, 0, 0, 0, 0, 0, 0, 0, 0, 0, 0, 0, 0, 0, 0, 0, 0, 0, 4, 0, 0, 0, 0, 0, 0] else []).getD c 0
def hg_N (o : Nat) : Nat := if o = 0 then 56 else 22
def hg_rd (b : Nat) : Prop := b = 19 ∨ b = 28 ∨ b = 37
def hg_f0 (ad : Nat → Nat) (w : hg_W) (c : Nat) : List Value := [.ref (ad 1), .ref (ad (c + 1)), .ref (ad (c + 2)), .ref (ad (c + 3)), .ref (ad (c + 4)), .ref (ad (c + 5)), .ref (ad (c + 6)), .ref (ad (c + 7)), .ref (ad (c + 8)), .int (hg_I (w c 9)), .int (hg_I (w c 10)), .int (hg_I (w c 11)), .int (hg_I (w c 12)), .int (hg_I (w c 13))]
def hg_f1 (ad : Nat → Nat) (w : hg_W) (c : Nat) : List Value := [.ref (ad (c + 1)), .ref (ad (c + 2)), .ref (ad (c + 3))]
def hg_f2 (ad : Nat → Nat) (w : hg_W) (c : Nat) : List Value := [.ref (ad (c + 1)), .int (hg_I (w c 1)), .ref (ad (w c 2).toNat), .int (hg_I (w c 3)), .int (hg_I (w c 4)), .int (hg_I (w c 5)), .int (hg_I (w c 6)), .int (hg_I (w c 7)), .int (hg_I (w c 8))]
def hg_f3 (ad : Nat → Nat) (w : hg_W) (c : Nat) : List Value := [.ref (ad (c + 1)), .ref (ad (c + 8)), .ref (ad (c + 15)), .int (hg_I (w c 3))]
def hg_f4 (ad : Nat → Nat) (w : hg_W) (c : Nat) : List Value := [.ref (ad 1), .ref (ad 17), .ref (ad 19), .ref (ad 28), .ref (ad 37), .int (hg_I (w c 5)), .ref (ad 46), .ref (ad 54), .ref (ad 55)]
def hg_f5 (ad : Nat → Nat) (w : hg_W) (c : Nat) : List Value := [.int (hg_I (w c 0)), .ref (ad 1), .ref (ad 2), .ref (ad 3), .ref (ad 4), .int (hg_I (w c 5)), .int (hg_I (w c 6)), .ref (ad 5), .int (hg_I (w c 8)), .ref (ad 6), .ref (ad 7), .int (hg_I (w c 11)), .int (hg_I (w c 12)), .int (hg_I (w c 13)), .ref (ad 8), .ref (ad 9), .ref (ad 10), .ref (ad 11), .ref (ad 12), .ref (ad 13), .int (hg_I (w c 20)), .int (hg_I (w c 21)), .int (hg_I (w c 22)), .int (hg_I (w c 23)), .ref (ad 14), .ref (ad 15), .int (hg_I (w c 26)), .int (hg_I (w c 27)), .int (hg_I (w c 28)), .ref (ad 16), .ref (ad 17), .ref (ad 18), .ref (ad 19), .int (hg_I (w c 33)), .ref (ad 20), .ref (ad 21), .int (hg_I (w c 36))]
def hg_CE (cI cA : ClassId) (ad : Nat → Nat) (o : Nat) (w : hg_W) (c : Nat) : va_E := match hg_kd o c with
  | 0 => .inr (0, hg_f0 ad w c)
  | 1 => .inr (1, hg_f1 ad w c)
  | 2 => .inr (2, hg_f2 ad w c)
  | 3 => .inr (3, hg_f3 ad w c)
  | 4 => .inr (4, hg_f4 ad w c)
  | 5 => .inr (5, hg_f5 ad w c)
  | 6 => .inl (cI, hg_ln o c, .inl (fun j => hg_I (w c j)))
  | 7 => .inl (cA, hg_lq o c, .inr (.inr (.inr (.inr (fun j => some (ad (c + 1 + j)))))))
  | _ => .inr (0, [])
theorem hg_CE6 {cI cA : ClassId} {ad : Nat → Nat} {o : Nat} {w : hg_W} {c : Nat} (h : hg_kd o c = 6) : hg_CE cI cA ad o w c = .inl (cI, hg_ln o c, .inl (fun j => hg_I (w c j))) := by simp only [hg_CE, h]
theorem hg_CE7 {cI cA : ClassId} {ad : Nat → Nat} {o : Nat} {w : hg_W} {c : Nat} (h : hg_kd o c = 7) : hg_CE cI cA ad o w c = .inl (cA, hg_lq o c, .inr (.inr (.inr (.inr (fun j => some (ad (c + 1 + j))))))) := by simp only [hg_CE, h]
theorem hg_CE0 {cI cA : ClassId} {ad : Nat → Nat} {o : Nat} {w : hg_W} {c : Nat} (h : hg_kd o c = 0) : hg_CE cI cA ad o w c = .inr (0, hg_f0 ad w c) := by simp only [hg_CE, h]
theorem hg_CE1 {cI cA : ClassId} {ad : Nat → Nat} {o : Nat} {w : hg_W} {c : Nat} (h : hg_kd o c = 1) : hg_CE cI cA ad o w c = .inr (1, hg_f1 ad w c) := by simp only [hg_CE, h]
theorem hg_CE2 {cI cA : ClassId} {ad : Nat → Nat} {o : Nat} {w : hg_W} {c : Nat} (h : hg_kd o c = 2) : hg_CE cI cA ad o w c = .inr (2, hg_f2 ad w c) := by simp only [hg_CE, h]
theorem hg_CE3 {cI cA : ClassId} {ad : Nat → Nat} {o : Nat} {w : hg_W} {c : Nat} (h : hg_kd o c = 3) : hg_CE cI cA ad o w c = .inr (3, hg_f3 ad w c) := by simp only [hg_CE, h]
theorem hg_CE4 {cI cA : ClassId} {ad : Nat → Nat} {o : Nat} {w : hg_W} {c : Nat} (h : hg_kd o c = 4) : hg_CE cI cA ad o w c = .inr (4, hg_f4 ad w c) := by simp only [hg_CE, h]
theorem hg_CE5 {cI cA : ClassId} {ad : Nat → Nat} {o : Nat} {w : hg_W} {c : Nat} (h : hg_kd o c = 5) : hg_CE cI cA ad o w c = .inr (5, hg_f5 ad w c) := by simp only [hg_CE, h]
theorem hg_CE_congr {cI cA : ClassId} {ad : Nat → Nat} {o : Nat} {w w' : hg_W} {c : Nat} (h : w c = w' c) : hg_CE cI cA ad o w c = hg_CE cI cA ad o w' c := by
  simp only [hg_CE, hg_f0, hg_f1, hg_f2, hg_f3, hg_f4, hg_f5, h]
def hg_CW (cI cA : ClassId) (ad : Nat → Nat) (o : Nat) (w : hg_W) : va_W := (List.range (hg_N o)).map (fun c => (ad c, hg_CE cI cA ad o w c))
theorem hg_CW_get {cI cA : ClassId} {ad : Nat → Nat} {o : Nat} {w : hg_W} {c : Nat} (h : c < hg_N o) : (hg_CW cI cA ad o w)[c]? = some (ad c, hg_CE cI cA ad o w c) := by
  simp [hg_CW, List.getElem?_map, List.getElem?_range h]
theorem hg_CW_of {cI cA : ClassId} {ad : Nat → Nat} {o : Nat} {w : hg_W} {k : Nat} {q : Nat × va_E} (h : (hg_CW cI cA ad o w)[k]? = some q) : k < hg_N o ∧ q = (ad k, hg_CE cI cA ad o w k) := by
  have hl : k < hg_N o := by
    have := (List.getElem?_eq_some_iff.mp h).1
    simpa [hg_CW] using this
  rw [hg_CW_get hl] at h
  exact ⟨hl, (Option.some.inj h).symm⟩
def hg_up (w : hg_W) (c k : Nat) (v : Int) : hg_W := fun c' k' => if c' = c then (if k' = k then v else w c' k') else w c' k'
theorem hg_CW_set {cI cA : ClassId} {ad : Nat → Nat} {o : Nat} {w w' : hg_W} {c : Nat} {e : va_E} (he : hg_CE cI cA ad o w' c = e) (hw : ∀ c', c' ≠ c → w' c' = w c') : (hg_CW cI cA ad o w).set c (ad c, e) = hg_CW cI cA ad o w' := by
  apply List.ext_getElem?
  intro k
  by_cases hk : k < hg_N o
  · rw [hg_CW_get hk]
    by_cases hkc : k = c
    · subst hkc
      rw [List.getElem?_set_self (by simpa [hg_CW] using hk), he]
    · rw [List.getElem?_set_ne (Ne.symm hkc), hg_CW_get hk, hg_CE_congr (hw k hkc)]
  · rw [List.getElem?_eq_none (by simp [hg_CW]; omega), List.getElem?_eq_none (by simp [hg_CW]; omega)]
theorem hg_up_ne {w : hg_W} {c k : Nat} {v : Int} : ∀ c', c' ≠ c → hg_up w c k v c' = w c' := fun c' h => by funext k'; simp [hg_up, h]
theorem hg_CD {cI cA : ClassId} {ad : Nat → Nat} {o : Nat} {w w' : hg_W} {A : Nat → Prop} (h : va_D A (hg_CW cI cA ad o w)) : va_D A (hg_CW cI cA ad o w') := by
  refine ⟨fun i j x y hi hj hxy => ?_, fun k q hk => ?_⟩
  · obtain ⟨h1, rfl⟩ := hg_CW_of hi
    obtain ⟨h2, rfl⟩ := hg_CW_of hj
    exact h.1 i j _ _ (hg_CW_get h1) (hg_CW_get h2) hxy
  · obtain ⟨h1, rfl⟩ := hg_CW_of hk
    exact h.2 k (ad k, hg_CE cI cA ad o w k) (hg_CW_get h1)
theorem hg_CA {cI cA : ClassId} {ad : Nat → Nat} {o : Nat} {w : hg_W} {A : Nat → Prop} {sz : Nat} (h : va_D A (hg_CW cI cA ad o w)) (hA : ∀ q, sz ≤ q → A q) : ∀ q, va_A (hg_CW cI cA ad o w) sz q → A q := by
  intro q hq
  rcases hq with ⟨k, e, hk⟩ | hq
  · exact h.2 k (q, e) hk
  · exact hA q hq
/-- an int array's reads and stores, a row's place -/
def hg_ag (o : Nat) (w : hg_W) (c : Nat) (k : Int) : Option Int := if 0 ≤ wr k ∧ wr k < (hg_ln o c : Int) then some (w c (wr k).toNat) else none
def hg_as (o : Nat) (w : hg_W) (c : Nat) (k v : Int) : Option hg_W := if 0 ≤ wr k ∧ wr k < (hg_ln o c : Int) then some (hg_up w c (wr k).toNat (wr v)) else none
def hg_ar (c : Nat) (k : Int) : Option Nat := if 0 ≤ wr k ∧ wr k < (hg_lq 0 c : Int) then some (c + 1 + (wr k).toNat) else none
def hg_al (o c : Nat) : Option Int := if 0 < hg_ln o c then some (hg_ln o c : Int) else none
def hg_pt (w : hg_W) (c k : Nat) (v : Int) : Option hg_W := some (hg_up w c k (wr v))
def hg_pr (w : hg_W) (c k : Nat) (v : Int) : Option hg_W := some (hg_up w c k v)
def hg_bd {β : Type} (x : Option (hg_W × Int)) (f : hg_W → Int → Option β) : Option β := x.bind (fun q => f q.1 q.2)
theorem hg_bd_some {β : Type} {x : Option (hg_W × Int)} {f : hg_W → Int → Option β} {r : β} (h : hg_bd x f = some r) : ∃ (w : hg_W) (v : Int), x = some (w, v) ∧ f w v = some r := by
  obtain ⟨q, h1, h2⟩ := Option.bind_eq_some_iff.mp h
  exact ⟨q.1, q.2, h1, h2⟩
/-- System.arraycopy between int arrays of the class -/
def hg_cp (w : hg_W) (c0 : Nat) (sp : Int) (c1 : Nat) (dp n : Int) : Option hg_W :=
  if 0 < hg_ln 0 c0 ∧ 0 < hg_ln 0 c1 ∧ 0 ≤ wr sp ∧ 0 ≤ wr dp ∧ 0 ≤ wr n ∧ wr sp + wr n ≤ (hg_ln 0 c0 : Int) ∧ wr dp + wr n ≤ (hg_ln 0 c1 : Int) then
    some (fun c' k' => if c' = c1 then (if (wr dp).toNat ≤ k' ∧ k' < (wr dp).toNat + (wr n).toNat then w c0 ((wr sp).toNat + (k' - (wr dp).toNat)) else w c1 k') else w c' k')
  else none
theorem hg_ln_kd0 : ∀ c, c < 56 → 0 < hg_ln 0 c → hg_kd 0 c = 6 := by decide +kernel
theorem hg_ln_kd1 : ∀ c, c < 22 → 0 < hg_ln 1 c → hg_kd 1 c = 6 := by decide +kernel
theorem hg_ln_lt {o c : Nat} (ho : o = 0 ∨ o = 1) (h : 0 < hg_ln o c) : c < hg_N o := by
  rcases ho with rfl | rfl
  · rcases Nat.lt_or_ge c 56 with q | q
    · exact q
    · rw [show hg_ln 0 c = 0 from by show List.getD _ c 0 = 0; rw [List.getD_eq_getElem?_getD, List.getElem?_eq_none (by simpa using q)]; rfl] at h; omega
  · rcases Nat.lt_or_ge c 22 with q | q
    · exact q
    · rw [show hg_ln 1 c = 0 from by show List.getD _ c 0 = 0; rw [List.getD_eq_getElem?_getD, List.getElem?_eq_none (by simpa using q)]; rfl] at h; omega
theorem hg_ln_kd {o c : Nat} (ho : o = 0 ∨ o = 1) (h : 0 < hg_ln o c) : c < hg_N o ∧ hg_kd o c = 6 := by
  have hl := hg_ln_lt ho h
  rcases ho with rfl | rfl
  · exact ⟨hl, hg_ln_kd0 c hl h⟩
  · exact ⟨hl, hg_ln_kd1 c hl h⟩
theorem hg_lq_kd0 : ∀ c, c < 56 → 0 < hg_lq 0 c → hg_kd 0 c = 7 := by decide +kernel
theorem hg_lq_kd {c : Nat} (h : 0 < hg_lq 0 c) : c < hg_N 0 ∧ hg_kd 0 c = 7 := by
  have hl : c < 56 := by
    rcases Nat.lt_or_ge c 56 with q | q
    · exact q
    · rw [show hg_lq 0 c = 0 from by show List.getD _ c 0 = 0; rw [List.getD_eq_getElem?_getD, List.getElem?_eq_none (by simpa using q)]; rfl] at h; omega
  exact ⟨hl, hg_lq_kd0 c hl h⟩
theorem hg_in {k : Int} {n : Nat} (h : 0 ≤ wr k ∧ wr k < (n : Int)) : vp_in (hg_I k) n := by
  intro q
  rcases q with q | q
  · rw [show (0 : Int32) = hg_I 0 from rfl, hg_I_lt] at q
    have : wr 0 = 0 := rfl
    omega
  · have : (hg_I k).toNatClampNeg = (wr k).toNat := rfl
    omega

theorem hg_fs0_9 {ad : Nat → Nat} {w : hg_W} {c : Nat} {x : Int} : (hg_f0 ad w c).set 9 (.int (hg_I x)) = hg_f0 ad (hg_up w c 9 (wr x)) c := by simp [hg_f0, hg_up, hg_I_wr]
theorem hg_fs0_10 {ad : Nat → Nat} {w : hg_W} {c : Nat} {x : Int} : (hg_f0 ad w c).set 10 (.int (hg_I x)) = hg_f0 ad (hg_up w c 10 (wr x)) c := by simp [hg_f0, hg_up, hg_I_wr]
theorem hg_fs0_11 {ad : Nat → Nat} {w : hg_W} {c : Nat} {x : Int} : (hg_f0 ad w c).set 11 (.int (hg_I x)) = hg_f0 ad (hg_up w c 11 (wr x)) c := by simp [hg_f0, hg_up, hg_I_wr]
theorem hg_fs0_12 {ad : Nat → Nat} {w : hg_W} {c : Nat} {x : Int} : (hg_f0 ad w c).set 12 (.int (hg_I x)) = hg_f0 ad (hg_up w c 12 (wr x)) c := by simp [hg_f0, hg_up, hg_I_wr]
theorem hg_fs0_13 {ad : Nat → Nat} {w : hg_W} {c : Nat} {x : Int} : (hg_f0 ad w c).set 13 (.int (hg_I x)) = hg_f0 ad (hg_up w c 13 (wr x)) c := by simp [hg_f0, hg_up, hg_I_wr]
theorem hg_fs2_1 {ad : Nat → Nat} {w : hg_W} {c : Nat} {x : Int} : (hg_f2 ad w c).set 1 (.int (hg_I x)) = hg_f2 ad (hg_up w c 1 (wr x)) c := by simp [hg_f2, hg_up, hg_I_wr]
theorem hg_fs2_3 {ad : Nat → Nat} {w : hg_W} {c : Nat} {x : Int} : (hg_f2 ad w c).set 3 (.int (hg_I x)) = hg_f2 ad (hg_up w c 3 (wr x)) c := by simp [hg_f2, hg_up, hg_I_wr]
theorem hg_fs2_4 {ad : Nat → Nat} {w : hg_W} {c : Nat} {x : Int} : (hg_f2 ad w c).set 4 (.int (hg_I x)) = hg_f2 ad (hg_up w c 4 (wr x)) c := by simp [hg_f2, hg_up, hg_I_wr]
theorem hg_fs2_5 {ad : Nat → Nat} {w : hg_W} {c : Nat} {x : Int} : (hg_f2 ad w c).set 5 (.int (hg_I x)) = hg_f2 ad (hg_up w c 5 (wr x)) c := by simp [hg_f2, hg_up, hg_I_wr]
theorem hg_fs2_6 {ad : Nat → Nat} {w : hg_W} {c : Nat} {x : Int} : (hg_f2 ad w c).set 6 (.int (hg_I x)) = hg_f2 ad (hg_up w c 6 (wr x)) c := by simp [hg_f2, hg_up, hg_I_wr]
theorem hg_fs2_7 {ad : Nat → Nat} {w : hg_W} {c : Nat} {x : Int} : (hg_f2 ad w c).set 7 (.int (hg_I x)) = hg_f2 ad (hg_up w c 7 (wr x)) c := by simp [hg_f2, hg_up, hg_I_wr]
theorem hg_fs2_8 {ad : Nat → Nat} {w : hg_W} {c : Nat} {x : Int} : (hg_f2 ad w c).set 8 (.int (hg_I x)) = hg_f2 ad (hg_up w c 8 (wr x)) c := by simp [hg_f2, hg_up, hg_I_wr]
theorem hg_fs3_3 {ad : Nat → Nat} {w : hg_W} {c : Nat} {x : Int} : (hg_f3 ad w c).set 3 (.int (hg_I x)) = hg_f3 ad (hg_up w c 3 (wr x)) c := by simp [hg_f3, hg_up, hg_I_wr]
theorem hg_fs4_5 {ad : Nat → Nat} {w : hg_W} {c : Nat} {x : Int} : (hg_f4 ad w c).set 5 (.int (hg_I x)) = hg_f4 ad (hg_up w c 5 (wr x)) c := by simp [hg_f4, hg_up, hg_I_wr]
theorem hg_fs5_0 {ad : Nat → Nat} {w : hg_W} {c : Nat} {x : Int} : (hg_f5 ad w c).set 0 (.int (hg_I x)) = hg_f5 ad (hg_up w c 0 (wr x)) c := by simp [hg_f5, hg_up, hg_I_wr]
theorem hg_fs5_5 {ad : Nat → Nat} {w : hg_W} {c : Nat} {x : Int} : (hg_f5 ad w c).set 5 (.int (hg_I x)) = hg_f5 ad (hg_up w c 5 (wr x)) c := by simp [hg_f5, hg_up, hg_I_wr]
theorem hg_fs5_6 {ad : Nat → Nat} {w : hg_W} {c : Nat} {x : Int} : (hg_f5 ad w c).set 6 (.int (hg_I x)) = hg_f5 ad (hg_up w c 6 (wr x)) c := by simp [hg_f5, hg_up, hg_I_wr]
theorem hg_fs5_8 {ad : Nat → Nat} {w : hg_W} {c : Nat} {x : Int} : (hg_f5 ad w c).set 8 (.int (hg_I x)) = hg_f5 ad (hg_up w c 8 (wr x)) c := by simp [hg_f5, hg_up, hg_I_wr]
theorem hg_fs5_11 {ad : Nat → Nat} {w : hg_W} {c : Nat} {x : Int} : (hg_f5 ad w c).set 11 (.int (hg_I x)) = hg_f5 ad (hg_up w c 11 (wr x)) c := by simp [hg_f5, hg_up, hg_I_wr]
theorem hg_fs5_12 {ad : Nat → Nat} {w : hg_W} {c : Nat} {x : Int} : (hg_f5 ad w c).set 12 (.int (hg_I x)) = hg_f5 ad (hg_up w c 12 (wr x)) c := by simp [hg_f5, hg_up, hg_I_wr]
theorem hg_fs5_13 {ad : Nat → Nat} {w : hg_W} {c : Nat} {x : Int} : (hg_f5 ad w c).set 13 (.int (hg_I x)) = hg_f5 ad (hg_up w c 13 (wr x)) c := by simp [hg_f5, hg_up, hg_I_wr]
theorem hg_fs5_20 {ad : Nat → Nat} {w : hg_W} {c : Nat} {x : Int} : (hg_f5 ad w c).set 20 (.int (hg_I x)) = hg_f5 ad (hg_up w c 20 (wr x)) c := by simp [hg_f5, hg_up, hg_I_wr]
theorem hg_fs5_21 {ad : Nat → Nat} {w : hg_W} {c : Nat} {x : Int} : (hg_f5 ad w c).set 21 (.int (hg_I x)) = hg_f5 ad (hg_up w c 21 (wr x)) c := by simp [hg_f5, hg_up, hg_I_wr]
theorem hg_fs5_22 {ad : Nat → Nat} {w : hg_W} {c : Nat} {x : Int} : (hg_f5 ad w c).set 22 (.int (hg_I x)) = hg_f5 ad (hg_up w c 22 (wr x)) c := by simp [hg_f5, hg_up, hg_I_wr]
theorem hg_fs5_23 {ad : Nat → Nat} {w : hg_W} {c : Nat} {x : Int} : (hg_f5 ad w c).set 23 (.int (hg_I x)) = hg_f5 ad (hg_up w c 23 (wr x)) c := by simp [hg_f5, hg_up, hg_I_wr]
theorem hg_fs5_26 {ad : Nat → Nat} {w : hg_W} {c : Nat} {x : Int} : (hg_f5 ad w c).set 26 (.int (hg_I x)) = hg_f5 ad (hg_up w c 26 (wr x)) c := by simp [hg_f5, hg_up, hg_I_wr]
theorem hg_fs5_27 {ad : Nat → Nat} {w : hg_W} {c : Nat} {x : Int} : (hg_f5 ad w c).set 27 (.int (hg_I x)) = hg_f5 ad (hg_up w c 27 (wr x)) c := by simp [hg_f5, hg_up, hg_I_wr]
theorem hg_fs5_28 {ad : Nat → Nat} {w : hg_W} {c : Nat} {x : Int} : (hg_f5 ad w c).set 28 (.int (hg_I x)) = hg_f5 ad (hg_up w c 28 (wr x)) c := by simp [hg_f5, hg_up, hg_I_wr]
theorem hg_fs5_33 {ad : Nat → Nat} {w : hg_W} {c : Nat} {x : Int} : (hg_f5 ad w c).set 33 (.int (hg_I x)) = hg_f5 ad (hg_up w c 33 (wr x)) c := by simp [hg_f5, hg_up, hg_I_wr]
theorem hg_fs5_36 {ad : Nat → Nat} {w : hg_W} {c : Nat} {x : Int} : (hg_f5 ad w c).set 36 (.int (hg_I x)) = hg_f5 ad (hg_up w c 36 (wr x)) c := by simp [hg_f5, hg_up, hg_I_wr]
theorem hg_rd_lt {b : Nat} (h : hg_rd b) : b < hg_N 0 := by rcases h with rfl | rfl | rfl <;> decide
theorem hg_rd_kd {b : Nat} (h : hg_rd b) : hg_kd 0 b = 0 := by rcases h with rfl | rfl | rfl <;> rfl
/-! ===== what lies outside the two worlds: String constants, two statics, a nest mate's link ===== -/
def hg_six : List Nat := [98, 100, 102, 104, 106, 108, 110, 112, 114, 116, 118, 120, 122]
def hg_stx : List String := ["pride", "worth", "coins", "purse", "turns", "more", "or", "and", "not", "takes", "sounds", "costs", ""]
def hg_sle : List Nat := [5, 5, 5, 5, 5, 4, 2, 3, 3, 5, 6, 5, 0]
def hg_sby : List (List Int32) := [[112, 114, 105, 100, 101], [119, 111, 114, 116, 104], [99, 111, 105, 110, 115], [112, 117, 114, 115, 101], [116, 117, 114, 110, 115], [109, 111, 114, 101], [111, 114], [97, 110, 100], [110, 111, 116], [116, 97, 107, 101, 115], [115, 111, 117, 110, 100, 115], [99, 111, 115, 116, 115], []]
def hg_nest : Cond := .methodLinkNest RX1 23 yX4_isSheet "HatGoesRound"
def hg_ex (ad : Nat → Nat) (A : Nat → Prop) (U : State) (H : Heap) : Prop :=
  va_Nw hg_nest U ∧ (∀ i : Nat, i < 13 → vk_R RX2 (hg_six.getD i 0) (hg_stx.getD i "") (ad (1000 + i)) U) ∧ vk_S 13 hg_sle hg_sby (fun i => ad (1000 + i)) (fun i => ad (2000 + i)) A U H ∧
  va_Z "java/lang/String" "COMPACT_STRINGS" "Z" (.int 1) A U H ∧ ∃ v : Value, v.category = 1 ∧ va_Z "jdk/internal/util/Preconditions" "SIOOBE_FORMATTER" "Ljava/util/function/BiFunction;" v A U H
theorem hg_ex.call {ad : Nat → Nat} {A A1 : Nat → Prop} {s U : State} {H : Heap} {locs : List Loc} (h : hg_ex ad A s s.heap) (hS : va_S A s.heap H locs) (hs : ∀ q, A1 q → A q) (hU : U.heap = H) (hW : s.WarmedH U.vm) : hg_ex ad A1 U U.heap := by
  obtain ⟨h1, h2, h3, h4, v, hc, h5⟩ := h
  rw [hU]
  exact ⟨va_Nw.warmM hW h1, fun i hi => vk_R.warm hW (h2 i hi), vk_S.moved hW.alike ((h3.kept hS.2.1).narrow hs), va_Z.moved hW.alike ((h4.kept hS.2.1).narrow hs), v, hc, va_Z.moved hW.alike ((h5.kept hS.2.1).narrow hs)⟩
theorem hg_ex.frame {ad : Nat → Nat} {A : Nat → Prop} {U U2 : State} (hv : U2.vm = U.vm) (hh : U2.heap = U.heap) (h : hg_ex ad A U U.heap) : hg_ex ad A U2 U2.heap := by
  obtain ⟨h1, h2, h3, h4, v, hc, h5⟩ := h
  have ha : U.vm.Alike U2.vm := by rw [hv]; exact Vm.Alike.refl U.vm
  rw [hh]
  exact ⟨va_Nw.same rfl hv.symm h1, fun i hi => vk_R.same hv (h2 i hi), vk_S.moved ha h3, va_Z.moved ha h4, v, hc, va_Z.moved ha h5⟩
/-! ===== what holds in a method; a point of it ===== -/
abbrev hg_tys (cI cA : ClassId) : List (ClassId × FieldType) := [(cI, .int), (cA, .array .int)]
def hg_B (p : Program) (s : State) (m : MethodId) (args : Array Value) (meth : Method) (c : Code) (cc : ByteArray) (own : String) (ws : List Cond) (nL : Nat) (D : va_G) (cI cA : ClassId) (ad : Nat → Nat) (o : Nat) (A : Nat → Prop) : Prop :=
  p.tables.exec = Jvm.exec ∧ c.code = cc ∧ c.maxLocals = nL ∧ s.vm.findClass own = some m.cls ∧ (∀ w ∈ ws, w.before args s = true) ∧ meth.locks = false ∧ (∀ q : Nat, s.heap.size ≤ q → A q) ∧ va_K D vwCl (hg_tys cI cA) s ∧ (o = 0 → hg_ex ad A s s.heap)
def hg_G (D : va_G) (cI cA : ClassId) (ad : Nat → Nat) (o : Nat) (A : Nat → Prop) (s : State) (w : hg_W) (H : Heap) (locs : List Loc) : Prop :=
  va_P D vwCl (hg_CW cI cA ad o w) H ∧ va_D A (hg_CW cI cA ad o w) ∧ va_S A s.heap H locs
def hg_At (p : Program) (l : Launch) (e : Env) (R : Room) (s : State) (m : MethodId) (args : Array Value) (below : List Frame) (meth : Method) (c : Code) (D : va_G) (cI cA : ClassId) (ad : Nat → Nat) (o : Nat) (A : Nat → Prop) (Q : State → Prop) (nL : Nat) (w : hg_W) (lv : List (Nat × Value)) (pc : Nat) (st : List Value) : Prop :=
  ∀ (H : Heap) (locs : List Loc) (ls : Array Slot), hg_G D cI cA ad o A s w H locs → lv_has ls nL lv → W p l e R s m args below meth c H locs 0 0 Q (F0 m pc ls st)
def hg_Qi (D : va_G) (cI cA : ClassId) (ad : Nat → Nat) (o : Nat) (A : Nat → Prop) (w : hg_W) (r : Int) : Array Value → State → Outcome → State → Prop :=
  va_Qi (S := Unit) (fun x _ => x = hg_I r) (fun _ t => va_P D vwCl (hg_CW cI cA ad o w) t.heap ∧ va_K D vwCl (hg_tys cI cA) t ∧ va_D A (hg_CW cI cA ad o w)) A
def hg_Ql (D : va_G) (cI cA : ClassId) (ad : Nat → Nat) (o : Nat) (A : Nat → Prop) (w : hg_W) (r : Int) : Array Value → State → Outcome → State → Prop :=
  va_Ql (S := Unit) (fun x _ => x = hg_J r) (fun _ t => va_P D vwCl (hg_CW cI cA ad o w) t.heap ∧ va_K D vwCl (hg_tys cI cA) t ∧ va_D A (hg_CW cI cA ad o w)) A
def hg_Qv (D : va_G) (cI cA : ClassId) (ad : Nat → Nat) (o : Nat) (A : Nat → Prop) (w : hg_W) : Array Value → State → Outcome → State → Prop :=
  va_Qv (S := Unit) (fun _ => True) (fun _ t => va_P D vwCl (hg_CW cI cA ad o w) t.heap ∧ va_K D vwCl (hg_tys cI cA) t ∧ va_D A (hg_CW cI cA ad o w)) A
def hg_Pc (D : va_G) (cI cA : ClassId) (ad : Nat → Nat) (o : Nat) (w : hg_W) (As : List Value) (sz : Nat) : Array Value → State → Prop :=
  va_Pc As (fun U => U.heap.size = sz ∧ va_P D vwCl (hg_CW cI cA ad o w) U.heap ∧ va_K D vwCl (hg_tys cI cA) U ∧ va_D (fun _ => True) (hg_CW cI cA ad o w) ∧ (o = 0 → hg_ex ad (va_A (hg_CW cI cA ad o w) sz) U U.heap))
def hg_Qr (D : va_G) (cI cA : ClassId) (ad : Nat → Nat) (o : Nat) (A : Nat → Prop) (w : hg_W) (r : Int) : Array Value → State → Outcome → State → Prop :=
  va_Qr (S := Unit) (fun _ => True) (fun _ a t => a = ad (1000 + r.toNat) ∧ va_P D vwCl (hg_CW cI cA ad o w) t.heap ∧ va_K D vwCl (hg_tys cI cA) t ∧ va_D A (hg_CW cI cA ad o w)) A
/-- a method's contract: of these arguments, in this world, it answers r, and the world behind it is w' -/
def hg_Mi (l : Launch) (y : MethodName) (ws : List Cond) (rm : Room) (D : va_G) (cI cA : ClassId) (ad : Nat → Nat) (o : Nat) (w : hg_W) (As : List Value) (w' : hg_W) (r : Int) : Prop :=
  ∀ sz : Nat, Met l y ws rm (hg_Pc D cI cA ad o w As sz) (hg_Qi D cI cA ad o (va_A (hg_CW cI cA ad o w) sz) w' r) 0 0 (va_A (hg_CW cI cA ad o w) sz)
def hg_Ml (l : Launch) (y : MethodName) (ws : List Cond) (rm : Room) (D : va_G) (cI cA : ClassId) (ad : Nat → Nat) (o : Nat) (w : hg_W) (As : List Value) (w' : hg_W) (r : Int) : Prop :=
  ∀ sz : Nat, Met l y ws rm (hg_Pc D cI cA ad o w As sz) (hg_Ql D cI cA ad o (va_A (hg_CW cI cA ad o w) sz) w' r) 0 0 (va_A (hg_CW cI cA ad o w) sz)
def hg_Mv (l : Launch) (y : MethodName) (ws : List Cond) (rm : Room) (D : va_G) (cI cA : ClassId) (ad : Nat → Nat) (o : Nat) (w : hg_W) (As : List Value) (w' : hg_W) : Prop :=
  ∀ sz : Nat, Met l y ws rm (hg_Pc D cI cA ad o w As sz) (hg_Qv D cI cA ad o (va_A (hg_CW cI cA ad o w) sz) w') 0 0 (va_A (hg_CW cI cA ad o w) sz)
def hg_Mr (l : Launch) (y : MethodName) (ws : List Cond) (rm : Room) (D : va_G) (cI cA : ClassId) (ad : Nat → Nat) (o : Nat) (w : hg_W) (As : List Value) (w' : hg_W) (r : Int) : Prop :=
  ∀ sz : Nat, Met l y ws rm (hg_Pc D cI cA ad o w As sz) (hg_Qr D cI cA ad o (va_A (hg_CW cI cA ad o w) sz) w' r) 0 0 (va_A (hg_CW cI cA ad o w) sz)
def hg_F : Nat := 100000
theorem hg_blind {D : va_G} {cI cA : ClassId} {ad : Nat → Nat} {o : Nat} {w : hg_W} {As : List Value} {sz : Nat} : FrameBlind (hg_Pc D cI cA ad o w As sz) := by
  intro a U g mk q
  obtain ⟨q0, q1, qP, qK, qD, qE⟩ := q
  exact ⟨q0, q1, qP, va_K.moved (u := U) (U := U.calling g mk a) (Vm.Alike.refl U.vm) qK, qD, fun ho => hg_ex.frame rfl rfl (qE ho)⟩
section HGZ
variable {p : Program} {l : Launch} {e : Env} {R : Room} {s : State} {m : MethodId} {args : Array Value} {below : List Frame} {meth : Method} {c : Code} {D : va_G} {cI cA : ClassId} {ad : Nat → Nat} {o : Nat} {A : Nat → Prop} {Q : State → Prop} {nL : Nat} {w : hg_W} {lv : List (Nat × Value)} {pc : Nat} {st : List Value} {cc : ByteArray} {own : String} {ws : List Cond}
theorem z_iconst (B : hg_B p s m args meth c cc own ws nL D cI cA ad o A) {n : Int} (d : decode cc pc = .ok (.iconst n, 1)) (k : hg_At p l e R s m args below meth c D cI cA ad o A Q nL w lv (pc + 1) (.int (hg_I n) :: st)) : hg_At p l e R s m args below meth c D cI cA ad o A Q nL w lv pc st := by
  obtain ⟨hx, hb, hml, hown, hts, hlk, hA, hK, hE⟩ := B
  intro H locs ls g hl
  exact lv_iconst hx hb d rfl (k _ _ _ g hl)
theorem z_bipush (B : hg_B p s m args meth c cc own ws nL D cI cA ad o A) {n : Int} (d : decode cc pc = .ok (.bipush n, 2)) (hn : (Int8.ofInt n).toInt32 = hg_I n) (k : hg_At p l e R s m args below meth c D cI cA ad o A Q nL w lv (pc + 2) (.int (hg_I n) :: st)) : hg_At p l e R s m args below meth c D cI cA ad o A Q nL w lv pc st := by
  obtain ⟨hx, hb, hml, hown, hts, hlk, hA, hK, hE⟩ := B
  intro H locs ls g hl
  exact lv_bipush hx hb d hn (k _ _ _ g hl)
theorem z_sipush (B : hg_B p s m args meth c cc own ws nL D cI cA ad o A) {n : Int} (d : decode cc pc = .ok (.sipush n, 3)) (hn : (Int16.ofInt n).toInt32 = hg_I n) (k : hg_At p l e R s m args below meth c D cI cA ad o A Q nL w lv (pc + 3) (.int (hg_I n) :: st)) : hg_At p l e R s m args below meth c D cI cA ad o A Q nL w lv pc st := by
  obtain ⟨hx, hb, hml, hown, hts, hlk, hA, hK, hE⟩ := B
  intro H locs ls g hl
  exact lv_sipush hx hb d hn (k _ _ _ g hl)
theorem z_ldc (B : hg_B p s m args meth c cc own ws nL D cI cA ad o A) {i : Nat} {n : Int} {v : Int32} (d : decode cc pc = .ok (.ldc i, 2)) (hc : Cond.constant own i v ∈ ws) (hn : v = hg_I n) (k : hg_At p l e R s m args below meth c D cI cA ad o A Q nL w lv (pc + 2) (.int (hg_I n) :: st)) : hg_At p l e R s m args below meth c D cI cA ad o A Q nL w lv pc st := by
  obtain ⟨hx, hb, hml, hown, hts, hlk, hA, hK, hE⟩ := B
  intro H locs ls g hl
  subst hn
  exact lv_ldc hx hb hown (hts _ hc) d (k _ _ _ g hl)
theorem z_ldc2 (B : hg_B p s m args meth c cc own ws nL D cI cA ad o A) {i : Nat} {n : Int} {v : Int64} (d : decode cc pc = .ok (.ldc2_w i, 3)) (hc : Cond.constantLong own i v ∈ ws) (hn : v = hg_J n) (k : hg_At p l e R s m args below meth c D cI cA ad o A Q nL w lv (pc + 3) (.long (hg_J n) :: st)) : hg_At p l e R s m args below meth c D cI cA ad o A Q nL w lv pc st := by
  obtain ⟨hx, hb, hml, hown, hts, hlk, hA, hK, hE⟩ := B
  intro H locs ls g hl
  subst hn
  exact lv_ldc2 hx hb hown (hts _ hc) d (k _ _ _ g hl)
theorem z_lconst (B : hg_B p s m args meth c cc own ws nL D cI cA ad o A) {n : Fin 2} {x : Int} (d : decode cc pc = .ok (.lconst n, 1)) (hn : Int64.ofNat (n : Nat) = hg_J x) (k : hg_At p l e R s m args below meth c D cI cA ad o A Q nL w lv (pc + 1) (.long (hg_J x) :: st)) : hg_At p l e R s m args below meth c D cI cA ad o A Q nL w lv pc st := by
  obtain ⟨hx, hb, hml, hown, hts, hlk, hA, hK, hE⟩ := B
  intro H locs ls g hl
  exact lv_lconst hx hb d hn (k _ _ _ g hl)
theorem z_iload_n (B : hg_B p s m args meth c cc own ws nL D cI cA ad o A) {k0 : Fin 4} (j : Nat) {x : Int32} {i : Nat} (d : decode cc pc = .ok (.iload_n k0, 1)) (hi : (k0 : Nat) = i) (hj : lv[j]? = some (i, .int x)) (k : hg_At p l e R s m args below meth c D cI cA ad o A Q nL w lv (pc + 1) (.int x :: st)) : hg_At p l e R s m args below meth c D cI cA ad o A Q nL w lv pc st := by
  obtain ⟨hx, hb, hml, hown, hts, hlk, hA, hK, hE⟩ := B
  intro H locs ls g hl
  exact lv_iload_n hx hb d hi (lv_at hl j hj) (k _ _ _ g hl)
theorem z_iload (B : hg_B p s m args meth c cc own ws nL D cI cA ad o A) {i : Nat} (j : Nat) {x : Int32} (d : decode cc pc = .ok (.iload i, 2)) (hj : lv[j]? = some (i, .int x)) (k : hg_At p l e R s m args below meth c D cI cA ad o A Q nL w lv (pc + 2) (.int x :: st)) : hg_At p l e R s m args below meth c D cI cA ad o A Q nL w lv pc st := by
  obtain ⟨hx, hb, hml, hown, hts, hlk, hA, hK, hE⟩ := B
  intro H locs ls g hl
  exact lv_iload hx hb d (lv_at hl j hj) (k _ _ _ g hl)
theorem z_lload_n (B : hg_B p s m args meth c cc own ws nL D cI cA ad o A) {k0 : Fin 4} (j : Nat) {x : Int64} {i : Nat} (d : decode cc pc = .ok (.lload_n k0, 1)) (hi : (k0 : Nat) = i) (hj : lv[j]? = some (i, .long x)) (k : hg_At p l e R s m args below meth c D cI cA ad o A Q nL w lv (pc + 1) (.long x :: st)) : hg_At p l e R s m args below meth c D cI cA ad o A Q nL w lv pc st := by
  obtain ⟨hx, hb, hml, hown, hts, hlk, hA, hK, hE⟩ := B
  intro H locs ls g hl
  exact lv_lload_n hx hb d hi (lv_at hl j hj) (k _ _ _ g hl)
theorem z_lload (B : hg_B p s m args meth c cc own ws nL D cI cA ad o A) {i : Nat} (j : Nat) {x : Int64} (d : decode cc pc = .ok (.lload i, 2)) (hj : lv[j]? = some (i, .long x)) (k : hg_At p l e R s m args below meth c D cI cA ad o A Q nL w lv (pc + 2) (.long x :: st)) : hg_At p l e R s m args below meth c D cI cA ad o A Q nL w lv pc st := by
  obtain ⟨hx, hb, hml, hown, hts, hlk, hA, hK, hE⟩ := B
  intro H locs ls g hl
  exact lv_lload hx hb d (lv_at hl j hj) (k _ _ _ g hl)
theorem z_aload_n (B : hg_B p s m args meth c cc own ws nL D cI cA ad o A) {k0 : Fin 4} (j : Nat) {x : Nat} {i : Nat} (d : decode cc pc = .ok (.aload_n k0, 1)) (hi : (k0 : Nat) = i) (hj : lv[j]? = some (i, .ref x)) (k : hg_At p l e R s m args below meth c D cI cA ad o A Q nL w lv (pc + 1) (.ref x :: st)) : hg_At p l e R s m args below meth c D cI cA ad o A Q nL w lv pc st := by
  obtain ⟨hx, hb, hml, hown, hts, hlk, hA, hK, hE⟩ := B
  intro H locs ls g hl
  exact lv_aload_n hx hb d hi (lv_at hl j hj) (k _ _ _ g hl)
theorem z_aload (B : hg_B p s m args meth c cc own ws nL D cI cA ad o A) {i : Nat} (j : Nat) {x : Nat} (d : decode cc pc = .ok (.aload i, 2)) (hj : lv[j]? = some (i, .ref x)) (k : hg_At p l e R s m args below meth c D cI cA ad o A Q nL w lv (pc + 2) (.ref x :: st)) : hg_At p l e R s m args below meth c D cI cA ad o A Q nL w lv pc st := by
  obtain ⟨hx, hb, hml, hown, hts, hlk, hA, hK, hE⟩ := B
  intro H locs ls g hl
  exact lv_aload hx hb d (lv_at hl j hj) (k _ _ _ g hl)
theorem z_istore_n (B : hg_B p s m args meth c cc own ws nL D cI cA ad o A) {k0 : Fin 4} {i : Nat} {x : Int32} (lv' : List (Nat × Value)) (d : decode cc pc = .ok (.istore_n k0, 1)) (hi : (k0 : Nat) = i) (hn : i < nL) (hl' : (i, Value.int x) :: lv.filter (fun q => !(q.1 == i) && !(q.1 + 1 == i && q.2.category == 2)) = lv') (k : hg_At p l e R s m args below meth c D cI cA ad o A Q nL w lv' (pc + 1) st) : hg_At p l e R s m args below meth c D cI cA ad o A Q nL w lv pc (.int x :: st) := by
  obtain ⟨hx, hb, hml, hown, hts, hlk, hA, hK, hE⟩ := B
  intro H locs ls g hl
  exact lv_istore_n hx hb d hi hl hn hl' (fun ls' h => k _ _ _ g h)
theorem z_istore (B : hg_B p s m args meth c cc own ws nL D cI cA ad o A) {i : Nat} {x : Int32} (lv' : List (Nat × Value)) (d : decode cc pc = .ok (.istore i, 2)) (hn : i < nL) (hl' : (i, Value.int x) :: lv.filter (fun q => !(q.1 == i) && !(q.1 + 1 == i && q.2.category == 2)) = lv') (k : hg_At p l e R s m args below meth c D cI cA ad o A Q nL w lv' (pc + 2) st) : hg_At p l e R s m args below meth c D cI cA ad o A Q nL w lv pc (.int x :: st) := by
  obtain ⟨hx, hb, hml, hown, hts, hlk, hA, hK, hE⟩ := B
  intro H locs ls g hl
  exact lv_istore hx hb d hl hn hl' (fun ls' h => k _ _ _ g h)
theorem z_astore_n (B : hg_B p s m args meth c cc own ws nL D cI cA ad o A) {k0 : Fin 4} {i : Nat} {x : Nat} (lv' : List (Nat × Value)) (d : decode cc pc = .ok (.astore_n k0, 1)) (hi : (k0 : Nat) = i) (hn : i < nL) (hl' : (i, Value.ref x) :: lv.filter (fun q => !(q.1 == i) && !(q.1 + 1 == i && q.2.category == 2)) = lv') (k : hg_At p l e R s m args below meth c D cI cA ad o A Q nL w lv' (pc + 1) st) : hg_At p l e R s m args below meth c D cI cA ad o A Q nL w lv pc (.ref x :: st) := by
  obtain ⟨hx, hb, hml, hown, hts, hlk, hA, hK, hE⟩ := B
  intro H locs ls g hl
  exact lv_astore_n hx hb d hi hl hn hl' (fun ls' h => k _ _ _ g h)
theorem z_astore (B : hg_B p s m args meth c cc own ws nL D cI cA ad o A) {i : Nat} {x : Nat} (lv' : List (Nat × Value)) (d : decode cc pc = .ok (.astore i, 2)) (hn : i < nL) (hl' : (i, Value.ref x) :: lv.filter (fun q => !(q.1 == i) && !(q.1 + 1 == i && q.2.category == 2)) = lv') (k : hg_At p l e R s m args below meth c D cI cA ad o A Q nL w lv' (pc + 2) st) : hg_At p l e R s m args below meth c D cI cA ad o A Q nL w lv pc (.ref x :: st) := by
  obtain ⟨hx, hb, hml, hown, hts, hlk, hA, hK, hE⟩ := B
  intro H locs ls g hl
  exact lv_astore hx hb d hl hn hl' (fun ls' h => k _ _ _ g h)
theorem z_lstore_n (B : hg_B p s m args meth c cc own ws nL D cI cA ad o A) {k0 : Fin 4} {i : Nat} {x : Int64} (lv' : List (Nat × Value)) (d : decode cc pc = .ok (.lstore_n k0, 1)) (hi : (k0 : Nat) = i) (hn : i + 1 < nL) (hl' : (i, Value.long x) :: lv.filter (fun q => !(q.1 == i) && (!(q.1 == i + 1) && !(q.1 + 1 == i && q.2.category == 2))) = lv') (k : hg_At p l e R s m args below meth c D cI cA ad o A Q nL w lv' (pc + 1) st) : hg_At p l e R s m args below meth c D cI cA ad o A Q nL w lv pc (.long x :: st) := by
  obtain ⟨hx, hb, hml, hown, hts, hlk, hA, hK, hE⟩ := B
  intro H locs ls g hl
  exact lv_lstore_n hx hb d hi hl hn hl' (fun ls' h => k _ _ _ g h)
theorem z_lstore (B : hg_B p s m args meth c cc own ws nL D cI cA ad o A) {i : Nat} {x : Int64} (lv' : List (Nat × Value)) (d : decode cc pc = .ok (.lstore i, 2)) (hn : i + 1 < nL) (hl' : (i, Value.long x) :: lv.filter (fun q => !(q.1 == i) && (!(q.1 == i + 1) && !(q.1 + 1 == i && q.2.category == 2))) = lv') (k : hg_At p l e R s m args below meth c D cI cA ad o A Q nL w lv' (pc + 2) st) : hg_At p l e R s m args below meth c D cI cA ad o A Q nL w lv pc (.long x :: st) := by
  obtain ⟨hx, hb, hml, hown, hts, hlk, hA, hK, hE⟩ := B
  intro H locs ls g hl
  exact lv_lstore hx hb d hl hn hl' (fun ls' h => k _ _ _ g h)
theorem z_iinc (B : hg_B p s m args meth c cc own ws nL D cI cA ad o A) {i : Nat} (j : Nat) {n : Int} {x : Int} (lv' : List (Nat × Value)) (d : decode cc pc = .ok (.iinc i n, 3)) (hj : lv[j]? = some (i, .int (hg_I x))) (hn : i < nL) (hl' : (i, Value.int (hg_I (x + n))) :: lv.filter (fun q => !(q.1 == i) && !(q.1 + 1 == i && q.2.category == 2)) = lv') (k : hg_At p l e R s m args below meth c D cI cA ad o A Q nL w lv' (pc + 3) st) : hg_At p l e R s m args below meth c D cI cA ad o A Q nL w lv pc st := by
  obtain ⟨hx, hb, hml, hown, hts, hlk, hA, hK, hE⟩ := B
  intro H locs ls g hl
  exact lv_iinc hx hb d hl hj (hg_I_add x n).symm hn hl' (fun ls' h => k _ _ _ g h)
theorem z_iadd (B : hg_B p s m args meth c cc own ws nL D cI cA ad o A) {x y : Int} (d : decode cc pc = .ok (.iadd, 1)) (k : hg_At p l e R s m args below meth c D cI cA ad o A Q nL w lv (pc + 1) (.int (hg_I (x + y)) :: st)) : hg_At p l e R s m args below meth c D cI cA ad o A Q nL w lv pc (.int (hg_I y) :: .int (hg_I x) :: st) := by
  obtain ⟨hx, hb, hml, hown, hts, hlk, hA, hK, hE⟩ := B
  intro H locs ls g hl
  exact lv_iadd hx hb d (by rw [← hg_I_add]; exact k _ _ _ g hl)
theorem z_isub (B : hg_B p s m args meth c cc own ws nL D cI cA ad o A) {x y : Int} (d : decode cc pc = .ok (.isub, 1)) (k : hg_At p l e R s m args below meth c D cI cA ad o A Q nL w lv (pc + 1) (.int (hg_I (x - y)) :: st)) : hg_At p l e R s m args below meth c D cI cA ad o A Q nL w lv pc (.int (hg_I y) :: .int (hg_I x) :: st) := by
  obtain ⟨hx, hb, hml, hown, hts, hlk, hA, hK, hE⟩ := B
  intro H locs ls g hl
  exact lv_isub hx hb d (by rw [← hg_I_sub]; exact k _ _ _ g hl)
theorem z_imul (B : hg_B p s m args meth c cc own ws nL D cI cA ad o A) {x y : Int} (d : decode cc pc = .ok (.imul, 1)) (k : hg_At p l e R s m args below meth c D cI cA ad o A Q nL w lv (pc + 1) (.int (hg_I (x * y)) :: st)) : hg_At p l e R s m args below meth c D cI cA ad o A Q nL w lv pc (.int (hg_I y) :: .int (hg_I x) :: st) := by
  obtain ⟨hx, hb, hml, hown, hts, hlk, hA, hK, hE⟩ := B
  intro H locs ls g hl
  exact lv_imul hx hb d (by rw [← hg_I_mul]; exact k _ _ _ g hl)
theorem z_ineg (B : hg_B p s m args meth c cc own ws nL D cI cA ad o A) {x : Int} (d : decode cc pc = .ok (.ineg, 1)) (k : hg_At p l e R s m args below meth c D cI cA ad o A Q nL w lv (pc + 1) (.int (hg_I (-x)) :: st)) : hg_At p l e R s m args below meth c D cI cA ad o A Q nL w lv pc (.int (hg_I x) :: st) := by
  obtain ⟨hx, hb, hml, hown, hts, hlk, hA, hK, hE⟩ := B
  intro H locs ls g hl
  exact lv_ineg hx hb d (by rw [← hg_I_neg]; exact k _ _ _ g hl)
theorem z_ishl (B : hg_B p s m args meth c cc own ws nL D cI cA ad o A) {x y : Int} (d : decode cc pc = .ok (.ishl, 1)) (k : hg_At p l e R s m args below meth c D cI cA ad o A Q nL w lv (pc + 1) (.int (hg_I (hg_shl x y)) :: st)) : hg_At p l e R s m args below meth c D cI cA ad o A Q nL w lv pc (.int (hg_I y) :: .int (hg_I x) :: st) := by
  obtain ⟨hx, hb, hml, hown, hts, hlk, hA, hK, hE⟩ := B
  intro H locs ls g hl
  exact lv_ishl hx hb d (by have h := k _ _ _ g hl; unfold hg_shl at h; rw [hg_I_toInt] at h; exact h)
theorem z_ishr (B : hg_B p s m args meth c cc own ws nL D cI cA ad o A) {x y : Int} (d : decode cc pc = .ok (.ishr, 1)) (k : hg_At p l e R s m args below meth c D cI cA ad o A Q nL w lv (pc + 1) (.int (hg_I (hg_shr x y)) :: st)) : hg_At p l e R s m args below meth c D cI cA ad o A Q nL w lv pc (.int (hg_I y) :: .int (hg_I x) :: st) := by
  obtain ⟨hx, hb, hml, hown, hts, hlk, hA, hK, hE⟩ := B
  intro H locs ls g hl
  exact lv_ishr hx hb d (by have h := k _ _ _ g hl; unfold hg_shr at h; rw [hg_I_toInt] at h; exact h)
theorem z_iand (B : hg_B p s m args meth c cc own ws nL D cI cA ad o A) {x y : Int} (d : decode cc pc = .ok (.iand, 1)) (k : hg_At p l e R s m args below meth c D cI cA ad o A Q nL w lv (pc + 1) (.int (hg_I (hg_and x y)) :: st)) : hg_At p l e R s m args below meth c D cI cA ad o A Q nL w lv pc (.int (hg_I y) :: .int (hg_I x) :: st) := by
  obtain ⟨hx, hb, hml, hown, hts, hlk, hA, hK, hE⟩ := B
  intro H locs ls g hl
  exact lv_iand hx hb d (by have h := k _ _ _ g hl; unfold hg_and at h; rw [hg_I_toInt] at h; exact h)
theorem z_ior (B : hg_B p s m args meth c cc own ws nL D cI cA ad o A) {x y : Int} (d : decode cc pc = .ok (.ior, 1)) (k : hg_At p l e R s m args below meth c D cI cA ad o A Q nL w lv (pc + 1) (.int (hg_I (hg_or x y)) :: st)) : hg_At p l e R s m args below meth c D cI cA ad o A Q nL w lv pc (.int (hg_I y) :: .int (hg_I x) :: st) := by
  obtain ⟨hx, hb, hml, hown, hts, hlk, hA, hK, hE⟩ := B
  intro H locs ls g hl
  exact lv_ior hx hb d (by have h := k _ _ _ g hl; unfold hg_or at h; rw [hg_I_toInt] at h; exact h)
theorem z_idiv (B : hg_B p s m args meth c cc own ws nL D cI cA ad o A) {x y : Int} (d : decode cc pc = .ok (.idiv, 1)) (hne : ¬ wr y = 0) (k : hg_At p l e R s m args below meth c D cI cA ad o A Q nL w lv (pc + 1) (.int (hg_I (hg_dv x y)) :: st)) : hg_At p l e R s m args below meth c D cI cA ad o A Q nL w lv pc (.int (hg_I y) :: .int (hg_I x) :: st) := by
  obtain ⟨hx, hb, hml, hown, hts, hlk, hA, hK, hE⟩ := B
  intro H locs ls g hl
  exact lv_idiv hx hb d (fun q => hne (hg_I_0.mp q)) (by have h := k _ _ _ g hl; unfold hg_dv at h; rw [hg_I_toInt] at h; exact h)
theorem z_irem (B : hg_B p s m args meth c cc own ws nL D cI cA ad o A) {x y : Int} (d : decode cc pc = .ok (.irem, 1)) (hne : ¬ wr y = 0) (k : hg_At p l e R s m args below meth c D cI cA ad o A Q nL w lv (pc + 1) (.int (hg_I (hg_rm x y)) :: st)) : hg_At p l e R s m args below meth c D cI cA ad o A Q nL w lv pc (.int (hg_I y) :: .int (hg_I x) :: st) := by
  obtain ⟨hx, hb, hml, hown, hts, hlk, hA, hK, hE⟩ := B
  intro H locs ls g hl
  exact lv_irem hx hb d (fun q => hne (hg_I_0.mp q)) (by have h := k _ _ _ g hl; unfold hg_rm at h; rw [hg_I_toInt] at h; exact h)
theorem z_ladd (B : hg_B p s m args meth c cc own ws nL D cI cA ad o A) {x y : Int} (d : decode cc pc = .ok (.ladd, 1)) (k : hg_At p l e R s m args below meth c D cI cA ad o A Q nL w lv (pc + 1) (.long (hg_J (x + y)) :: st)) : hg_At p l e R s m args below meth c D cI cA ad o A Q nL w lv pc (.long (hg_J y) :: .long (hg_J x) :: st) := by
  obtain ⟨hx, hb, hml, hown, hts, hlk, hA, hK, hE⟩ := B
  intro H locs ls g hl
  exact lv_ladd hx hb d (by rw [← hg_J_add]; exact k _ _ _ g hl)
theorem z_lmul (B : hg_B p s m args meth c cc own ws nL D cI cA ad o A) {x y : Int} (d : decode cc pc = .ok (.lmul, 1)) (k : hg_At p l e R s m args below meth c D cI cA ad o A Q nL w lv (pc + 1) (.long (hg_J (x * y)) :: st)) : hg_At p l e R s m args below meth c D cI cA ad o A Q nL w lv pc (.long (hg_J y) :: .long (hg_J x) :: st) := by
  obtain ⟨hx, hb, hml, hown, hts, hlk, hA, hK, hE⟩ := B
  intro H locs ls g hl
  exact lv_lmul hx hb d (by rw [← hg_J_mul]; exact k _ _ _ g hl)
theorem z_ldiv (B : hg_B p s m args meth c cc own ws nL D cI cA ad o A) {x y : Int} (d : decode cc pc = .ok (.ldiv, 1)) (hne : ¬ wl y = 0) (k : hg_At p l e R s m args below meth c D cI cA ad o A Q nL w lv (pc + 1) (.long (hg_J (hg_ldv x y)) :: st)) : hg_At p l e R s m args below meth c D cI cA ad o A Q nL w lv pc (.long (hg_J y) :: .long (hg_J x) :: st) := by
  obtain ⟨hx, hb, hml, hown, hts, hlk, hA, hK, hE⟩ := B
  intro H locs ls g hl
  exact lv_ldiv hx hb d (fun q => hne (hg_J_0.mp q)) (by have h := k _ _ _ g hl; unfold hg_ldv at h; rw [hg_J_toInt] at h; exact h)
theorem z_lrem (B : hg_B p s m args meth c cc own ws nL D cI cA ad o A) {x y : Int} (d : decode cc pc = .ok (.lrem, 1)) (hne : ¬ wl y = 0) (k : hg_At p l e R s m args below meth c D cI cA ad o A Q nL w lv (pc + 1) (.long (hg_J (hg_lrm x y)) :: st)) : hg_At p l e R s m args below meth c D cI cA ad o A Q nL w lv pc (.long (hg_J y) :: .long (hg_J x) :: st) := by
  obtain ⟨hx, hb, hml, hown, hts, hlk, hA, hK, hE⟩ := B
  intro H locs ls g hl
  exact lv_lrem hx hb d (fun q => hne (hg_J_0.mp q)) (by have h := k _ _ _ g hl; unfold hg_lrm at h; rw [hg_J_toInt] at h; exact h)
theorem z_i2l (B : hg_B p s m args meth c cc own ws nL D cI cA ad o A) {x : Int} (d : decode cc pc = .ok (.i2l, 1)) (k : hg_At p l e R s m args below meth c D cI cA ad o A Q nL w lv (pc + 1) (.long (hg_J (wr x)) :: st)) : hg_At p l e R s m args below meth c D cI cA ad o A Q nL w lv pc (.int (hg_I x) :: st) := by
  obtain ⟨hx, hb, hml, hown, hts, hlk, hA, hK, hE⟩ := B
  intro H locs ls g hl
  exact lv_i2l hx hb d (hg_J_of (Int32.toInt_toInt64 _)) (k _ _ _ g hl)
theorem z_l2i (B : hg_B p s m args meth c cc own ws nL D cI cA ad o A) {x : Int} (d : decode cc pc = .ok (.l2i, 1)) (k : hg_At p l e R s m args below meth c D cI cA ad o A Q nL w lv (pc + 1) (.int (hg_I x) :: st)) : hg_At p l e R s m args below meth c D cI cA ad o A Q nL w lv pc (.long (hg_J x) :: st) := by
  obtain ⟨hx, hb, hml, hown, hts, hlk, hA, hK, hE⟩ := B
  intro H locs ls g hl
  exact lv_l2i hx hb d Int64.toInt32_ofInt (k _ _ _ g hl)
theorem z_i2b (B : hg_B p s m args meth c cc own ws nL D cI cA ad o A) {x : Int} (d : decode cc pc = .ok (.i2b, 1)) (k : hg_At p l e R s m args below meth c D cI cA ad o A Q nL w lv (pc + 1) (.int (hg_I (hg_i2b x)) :: st)) : hg_At p l e R s m args below meth c D cI cA ad o A Q nL w lv pc (.int (hg_I x) :: st) := by
  obtain ⟨hx, hb, hml, hown, hts, hlk, hA, hK, hE⟩ := B
  intro H locs ls g hl
  exact lv_i2b hx hb d (hg_I_of rfl) (k _ _ _ g hl)
theorem z_i2s (B : hg_B p s m args meth c cc own ws nL D cI cA ad o A) {x : Int} (d : decode cc pc = .ok (.i2s, 1)) (k : hg_At p l e R s m args below meth c D cI cA ad o A Q nL w lv (pc + 1) (.int (hg_I (hg_i2s x)) :: st)) : hg_At p l e R s m args below meth c D cI cA ad o A Q nL w lv pc (.int (hg_I x) :: st) := by
  obtain ⟨hx, hb, hml, hown, hts, hlk, hA, hK, hE⟩ := B
  intro H locs ls g hl
  exact lv_i2s hx hb d (hg_I_of rfl) (k _ _ _ g hl)
theorem z_lcmp (B : hg_B p s m args meth c cc own ws nL D cI cA ad o A) {x y : Int} (d : decode cc pc = .ok (.lcmp, 1)) (k : hg_At p l e R s m args below meth c D cI cA ad o A Q nL w lv (pc + 1) (.int (hg_I (hg_lcmp x y)) :: st)) : hg_At p l e R s m args below meth c D cI cA ad o A Q nL w lv pc (.long (hg_J y) :: .long (hg_J x) :: st) := by
  obtain ⟨hx, hb, hml, hown, hts, hlk, hA, hK, hE⟩ := B
  intro H locs ls g hl
  refine W.lcmp hx hb d ?_
  have e1 : lg_cmp (hg_J x) (hg_J y) = hg_I (hg_lcmp x y) := by
    unfold lg_cmp hg_lcmp
    simp only [gt_iff_lt, Int64.lt_iff_toInt_lt, hg_J_inj]
    show (if wl y < wl x then (1 : Int32) else if wl x = wl y then 0 else -1) = _
    split
    · rfl
    · split <;> rfl
  rw [e1]
  exact k _ _ _ g hl
theorem z_dup (B : hg_B p s m args meth c cc own ws nL D cI cA ad o A) {v : Value} (d : decode cc pc = .ok (.dup, 1)) (hc : v.category = 1) (k : hg_At p l e R s m args below meth c D cI cA ad o A Q nL w lv (pc + 1) (v :: v :: st)) : hg_At p l e R s m args below meth c D cI cA ad o A Q nL w lv pc (v :: st) := by
  obtain ⟨hx, hb, hml, hown, hts, hlk, hA, hK, hE⟩ := B
  intro H locs ls g hl
  exact lv_dup hx hb d hc (k _ _ _ g hl)
theorem z_dup2 (B : hg_B p s m args meth c cc own ws nL D cI cA ad o A) {v u : Value} (d : decode cc pc = .ok (.dup2, 1)) (hc : v.category = 1) (hc2 : u.category = 1) (k : hg_At p l e R s m args below meth c D cI cA ad o A Q nL w lv (pc + 1) (v :: u :: v :: u :: st)) : hg_At p l e R s m args below meth c D cI cA ad o A Q nL w lv pc (v :: u :: st) := by
  obtain ⟨hx, hb, hml, hown, hts, hlk, hA, hK, hE⟩ := B
  intro H locs ls g hl
  exact lv_dup2_11 hx hb d hc hc2 (k _ _ _ g hl)
theorem z_pop (B : hg_B p s m args meth c cc own ws nL D cI cA ad o A) {v : Value} (d : decode cc pc = .ok (.pop, 1)) (hc : v.category = 1) (k : hg_At p l e R s m args below meth c D cI cA ad o A Q nL w lv (pc + 1) st) : hg_At p l e R s m args below meth c D cI cA ad o A Q nL w lv pc (v :: st) := by
  obtain ⟨hx, hb, hml, hown, hts, hlk, hA, hK, hE⟩ := B
  intro H locs ls g hl
  exact lv_pop hx hb d hc (k _ _ _ g hl)
theorem z_goto (B : hg_B p s m args meth c cc own ws nL D cI cA ad o A) {off : Int} {tgt : Nat} (d : decode cc pc = .ok (.goto off, 3)) (ht : (pc : Int) + off = (tgt : Int)) (k : hg_At p l e R s m args below meth c D cI cA ad o A Q nL w lv tgt st) : hg_At p l e R s m args below meth c D cI cA ad o A Q nL w lv pc st := by
  obtain ⟨hx, hb, hml, hown, hts, hlk, hA, hK, hE⟩ := B
  intro H locs ls g hl
  exact lv_goto hx hb d ht (k _ _ _ g hl)
theorem hg_rw {H : Heap} {locs : List Loc} {cells slots : Nat} {g g2 : JFrame} (h : g = g2) (k : W p l e R s m args below meth c H locs cells slots Q g2) : W p l e R s m args below meth c H locs cells slots Q g := h ▸ k
theorem z_icmp_eq {α : Type} {X Y : Option α} {r : α} (B : hg_B p s m args meth c cc own ws nL D cI cA ad o A) {x y : Int} {off : Int} {tgt : Nat} (d : decode cc pc = .ok (.if_icmp .eq off, 3)) (ht : (pc : Int) + off = (tgt : Int)) (h : (if wr x = wr y then X else Y) = some r) (kt : X = some r → hg_At p l e R s m args below meth c D cI cA ad o A Q nL w lv tgt st) (kf : Y = some r → hg_At p l e R s m args below meth c D cI cA ad o A Q nL w lv (pc + 3) st) : hg_At p l e R s m args below meth c D cI cA ad o A Q nL w lv pc (.int (hg_I y) :: .int (hg_I x) :: st) := by
  obtain ⟨hx, hb, hml, hown, hts, hlk, hA, hK, hE⟩ := B
  intro H locs ls g hl
  refine lv_icmp_eq hx hb d ht (fun q => ?_) (fun q => ?_)
  · have q2 : wr x = wr y := hg_I_inj.mp q
    rw [if_pos q2] at h
    exact kt h _ _ _ g hl
  · have q2 : ¬ (wr x = wr y) := fun z => q (hg_I_inj.mpr z)
    rw [if_neg q2] at h
    exact kf h _ _ _ g hl
theorem z_if_eq {α : Type} {X Y : Option α} {r : α} (B : hg_B p s m args meth c cc own ws nL D cI cA ad o A) {x : Int} {off : Int} {tgt : Nat} (d : decode cc pc = .ok (.ifCond .eq off, 3)) (ht : (pc : Int) + off = (tgt : Int)) (h : (if wr x = 0 then X else Y) = some r) (kt : X = some r → hg_At p l e R s m args below meth c D cI cA ad o A Q nL w lv tgt st) (kf : Y = some r → hg_At p l e R s m args below meth c D cI cA ad o A Q nL w lv (pc + 3) st) : hg_At p l e R s m args below meth c D cI cA ad o A Q nL w lv pc (.int (hg_I x) :: st) := by
  obtain ⟨hx, hb, hml, hown, hts, hlk, hA, hK, hE⟩ := B
  intro H locs ls g hl
  refine lv_if_eq hx hb d ht (fun q => ?_) (fun q => ?_)
  · have q2 : wr x = 0 := hg_I_0.mp q
    rw [if_pos q2] at h
    exact kt h _ _ _ g hl
  · have q2 : ¬ (wr x = 0) := fun z => q (hg_I_0.mpr z)
    rw [if_neg q2] at h
    exact kf h _ _ _ g hl
theorem z_icmp_ne {α : Type} {X Y : Option α} {r : α} (B : hg_B p s m args meth c cc own ws nL D cI cA ad o A) {x y : Int} {off : Int} {tgt : Nat} (d : decode cc pc = .ok (.if_icmp .ne off, 3)) (ht : (pc : Int) + off = (tgt : Int)) (h : (if wr x = wr y then Y else X) = some r) (kt : X = some r → hg_At p l e R s m args below meth c D cI cA ad o A Q nL w lv tgt st) (kf : Y = some r → hg_At p l e R s m args below meth c D cI cA ad o A Q nL w lv (pc + 3) st) : hg_At p l e R s m args below meth c D cI cA ad o A Q nL w lv pc (.int (hg_I y) :: .int (hg_I x) :: st) := by
  obtain ⟨hx, hb, hml, hown, hts, hlk, hA, hK, hE⟩ := B
  intro H locs ls g hl
  refine lv_icmp_ne hx hb d ht (fun q => ?_) (fun q => ?_)
  · have q2 : ¬ (wr x = wr y) := fun z => q (hg_I_inj.mpr z)
    rw [if_neg q2] at h
    exact kt h _ _ _ g hl
  · have q2 : wr x = wr y := hg_I_inj.mp q
    rw [if_pos q2] at h
    exact kf h _ _ _ g hl
theorem z_if_ne {α : Type} {X Y : Option α} {r : α} (B : hg_B p s m args meth c cc own ws nL D cI cA ad o A) {x : Int} {off : Int} {tgt : Nat} (d : decode cc pc = .ok (.ifCond .ne off, 3)) (ht : (pc : Int) + off = (tgt : Int)) (h : (if wr x = 0 then Y else X) = some r) (kt : X = some r → hg_At p l e R s m args below meth c D cI cA ad o A Q nL w lv tgt st) (kf : Y = some r → hg_At p l e R s m args below meth c D cI cA ad o A Q nL w lv (pc + 3) st) : hg_At p l e R s m args below meth c D cI cA ad o A Q nL w lv pc (.int (hg_I x) :: st) := by
  obtain ⟨hx, hb, hml, hown, hts, hlk, hA, hK, hE⟩ := B
  intro H locs ls g hl
  refine lv_if_ne hx hb d ht (fun q => ?_) (fun q => ?_)
  · have q2 : ¬ (wr x = 0) := fun z => q (hg_I_0.mpr z)
    rw [if_neg q2] at h
    exact kt h _ _ _ g hl
  · have q2 : wr x = 0 := hg_I_0.mp q
    rw [if_pos q2] at h
    exact kf h _ _ _ g hl
theorem z_icmp_lt {α : Type} {X Y : Option α} {r : α} (B : hg_B p s m args meth c cc own ws nL D cI cA ad o A) {x y : Int} {off : Int} {tgt : Nat} (d : decode cc pc = .ok (.if_icmp .lt off, 3)) (ht : (pc : Int) + off = (tgt : Int)) (h : (if wr x < wr y then X else Y) = some r) (kt : X = some r → hg_At p l e R s m args below meth c D cI cA ad o A Q nL w lv tgt st) (kf : Y = some r → hg_At p l e R s m args below meth c D cI cA ad o A Q nL w lv (pc + 3) st) : hg_At p l e R s m args below meth c D cI cA ad o A Q nL w lv pc (.int (hg_I y) :: .int (hg_I x) :: st) := by
  obtain ⟨hx, hb, hml, hown, hts, hlk, hA, hK, hE⟩ := B
  intro H locs ls g hl
  refine lv_icmp_lt hx hb d ht (fun q => ?_) (fun q => ?_)
  · have q2 : wr x < wr y := hg_I_lt.mp q
    rw [if_pos q2] at h
    exact kt h _ _ _ g hl
  · have q2 : ¬ (wr x < wr y) := fun z => q (hg_I_lt.mpr z)
    rw [if_neg q2] at h
    exact kf h _ _ _ g hl
theorem z_if_lt {α : Type} {X Y : Option α} {r : α} (B : hg_B p s m args meth c cc own ws nL D cI cA ad o A) {x : Int} {off : Int} {tgt : Nat} (d : decode cc pc = .ok (.ifCond .lt off, 3)) (ht : (pc : Int) + off = (tgt : Int)) (h : (if wr x < 0 then X else Y) = some r) (kt : X = some r → hg_At p l e R s m args below meth c D cI cA ad o A Q nL w lv tgt st) (kf : Y = some r → hg_At p l e R s m args below meth c D cI cA ad o A Q nL w lv (pc + 3) st) : hg_At p l e R s m args below meth c D cI cA ad o A Q nL w lv pc (.int (hg_I x) :: st) := by
  obtain ⟨hx, hb, hml, hown, hts, hlk, hA, hK, hE⟩ := B
  intro H locs ls g hl
  refine lv_if_lt hx hb d ht (fun q => ?_) (fun q => ?_)
  · have q2 : wr x < 0 := (hg_I_lt (y := 0)).mp q
    rw [if_pos q2] at h
    exact kt h _ _ _ g hl
  · have q2 : ¬ (wr x < 0) := fun z => q ((hg_I_lt (y := 0)).mpr z)
    rw [if_neg q2] at h
    exact kf h _ _ _ g hl
theorem z_icmp_ge {α : Type} {X Y : Option α} {r : α} (B : hg_B p s m args meth c cc own ws nL D cI cA ad o A) {x y : Int} {off : Int} {tgt : Nat} (d : decode cc pc = .ok (.if_icmp .ge off, 3)) (ht : (pc : Int) + off = (tgt : Int)) (h : (if wr y ≤ wr x then X else Y) = some r) (kt : X = some r → hg_At p l e R s m args below meth c D cI cA ad o A Q nL w lv tgt st) (kf : Y = some r → hg_At p l e R s m args below meth c D cI cA ad o A Q nL w lv (pc + 3) st) : hg_At p l e R s m args below meth c D cI cA ad o A Q nL w lv pc (.int (hg_I y) :: .int (hg_I x) :: st) := by
  obtain ⟨hx, hb, hml, hown, hts, hlk, hA, hK, hE⟩ := B
  intro H locs ls g hl
  refine lv_icmp_ge hx hb d ht (fun q => ?_) (fun q => ?_)
  · have q2 : wr y ≤ wr x := hg_I_le.mp q
    rw [if_pos q2] at h
    exact kt h _ _ _ g hl
  · have q2 : ¬ (wr y ≤ wr x) := fun z => q (hg_I_le.mpr z)
    rw [if_neg q2] at h
    exact kf h _ _ _ g hl
theorem z_if_ge {α : Type} {X Y : Option α} {r : α} (B : hg_B p s m args meth c cc own ws nL D cI cA ad o A) {x : Int} {off : Int} {tgt : Nat} (d : decode cc pc = .ok (.ifCond .ge off, 3)) (ht : (pc : Int) + off = (tgt : Int)) (h : (if 0 ≤ wr x then X else Y) = some r) (kt : X = some r → hg_At p l e R s m args below meth c D cI cA ad o A Q nL w lv tgt st) (kf : Y = some r → hg_At p l e R s m args below meth c D cI cA ad o A Q nL w lv (pc + 3) st) : hg_At p l e R s m args below meth c D cI cA ad o A Q nL w lv pc (.int (hg_I x) :: st) := by
  obtain ⟨hx, hb, hml, hown, hts, hlk, hA, hK, hE⟩ := B
  intro H locs ls g hl
  refine lv_if_ge hx hb d ht (fun q => ?_) (fun q => ?_)
  · have q2 : 0 ≤ wr x := (hg_I_le (x := 0)).mp q
    rw [if_pos q2] at h
    exact kt h _ _ _ g hl
  · have q2 : ¬ (0 ≤ wr x) := fun z => q ((hg_I_le (x := 0)).mpr z)
    rw [if_neg q2] at h
    exact kf h _ _ _ g hl
theorem z_icmp_gt {α : Type} {X Y : Option α} {r : α} (B : hg_B p s m args meth c cc own ws nL D cI cA ad o A) {x y : Int} {off : Int} {tgt : Nat} (d : decode cc pc = .ok (.if_icmp .gt off, 3)) (ht : (pc : Int) + off = (tgt : Int)) (h : (if wr y < wr x then X else Y) = some r) (kt : X = some r → hg_At p l e R s m args below meth c D cI cA ad o A Q nL w lv tgt st) (kf : Y = some r → hg_At p l e R s m args below meth c D cI cA ad o A Q nL w lv (pc + 3) st) : hg_At p l e R s m args below meth c D cI cA ad o A Q nL w lv pc (.int (hg_I y) :: .int (hg_I x) :: st) := by
  obtain ⟨hx, hb, hml, hown, hts, hlk, hA, hK, hE⟩ := B
  intro H locs ls g hl
  refine lv_icmp_gt hx hb d ht (fun q => ?_) (fun q => ?_)
  · have q2 : wr y < wr x := hg_I_lt.mp q
    rw [if_pos q2] at h
    exact kt h _ _ _ g hl
  · have q2 : ¬ (wr y < wr x) := fun z => q (hg_I_lt.mpr z)
    rw [if_neg q2] at h
    exact kf h _ _ _ g hl
theorem z_if_gt {α : Type} {X Y : Option α} {r : α} (B : hg_B p s m args meth c cc own ws nL D cI cA ad o A) {x : Int} {off : Int} {tgt : Nat} (d : decode cc pc = .ok (.ifCond .gt off, 3)) (ht : (pc : Int) + off = (tgt : Int)) (h : (if 0 < wr x then X else Y) = some r) (kt : X = some r → hg_At p l e R s m args below meth c D cI cA ad o A Q nL w lv tgt st) (kf : Y = some r → hg_At p l e R s m args below meth c D cI cA ad o A Q nL w lv (pc + 3) st) : hg_At p l e R s m args below meth c D cI cA ad o A Q nL w lv pc (.int (hg_I x) :: st) := by
  obtain ⟨hx, hb, hml, hown, hts, hlk, hA, hK, hE⟩ := B
  intro H locs ls g hl
  refine lv_if_gt hx hb d ht (fun q => ?_) (fun q => ?_)
  · have q2 : 0 < wr x := (hg_I_lt (x := 0)).mp q
    rw [if_pos q2] at h
    exact kt h _ _ _ g hl
  · have q2 : ¬ (0 < wr x) := fun z => q ((hg_I_lt (x := 0)).mpr z)
    rw [if_neg q2] at h
    exact kf h _ _ _ g hl
theorem z_icmp_le {α : Type} {X Y : Option α} {r : α} (B : hg_B p s m args meth c cc own ws nL D cI cA ad o A) {x y : Int} {off : Int} {tgt : Nat} (d : decode cc pc = .ok (.if_icmp .le off, 3)) (ht : (pc : Int) + off = (tgt : Int)) (h : (if wr x ≤ wr y then X else Y) = some r) (kt : X = some r → hg_At p l e R s m args below meth c D cI cA ad o A Q nL w lv tgt st) (kf : Y = some r → hg_At p l e R s m args below meth c D cI cA ad o A Q nL w lv (pc + 3) st) : hg_At p l e R s m args below meth c D cI cA ad o A Q nL w lv pc (.int (hg_I y) :: .int (hg_I x) :: st) := by
  obtain ⟨hx, hb, hml, hown, hts, hlk, hA, hK, hE⟩ := B
  intro H locs ls g hl
  refine lv_icmp_le hx hb d ht (fun q => ?_) (fun q => ?_)
  · have q2 : wr x ≤ wr y := hg_I_le.mp q
    rw [if_pos q2] at h
    exact kt h _ _ _ g hl
  · have q2 : ¬ (wr x ≤ wr y) := fun z => q (hg_I_le.mpr z)
    rw [if_neg q2] at h
    exact kf h _ _ _ g hl
theorem z_if_le {α : Type} {X Y : Option α} {r : α} (B : hg_B p s m args meth c cc own ws nL D cI cA ad o A) {x : Int} {off : Int} {tgt : Nat} (d : decode cc pc = .ok (.ifCond .le off, 3)) (ht : (pc : Int) + off = (tgt : Int)) (h : (if wr x ≤ 0 then X else Y) = some r) (kt : X = some r → hg_At p l e R s m args below meth c D cI cA ad o A Q nL w lv tgt st) (kf : Y = some r → hg_At p l e R s m args below meth c D cI cA ad o A Q nL w lv (pc + 3) st) : hg_At p l e R s m args below meth c D cI cA ad o A Q nL w lv pc (.int (hg_I x) :: st) := by
  obtain ⟨hx, hb, hml, hown, hts, hlk, hA, hK, hE⟩ := B
  intro H locs ls g hl
  refine lv_if_le hx hb d ht (fun q => ?_) (fun q => ?_)
  · have q2 : wr x ≤ 0 := (hg_I_le (y := 0)).mp q
    rw [if_pos q2] at h
    exact kt h _ _ _ g hl
  · have q2 : ¬ (wr x ≤ 0) := fun z => q ((hg_I_le (y := 0)).mpr z)
    rw [if_neg q2] at h
    exact kf h _ _ _ g hl
theorem z_tabIn (B : hg_B p s m args meth c cc own ws nL D cI cA ad o A) {dflt lo hi : Int} {offs : Array Int} {len : Nat} {x v : Int} {off : Int} {tgt : Nat} (d : decode cc pc = .ok (.tableswitch dflt lo hi offs, len)) (q : wr x = v) (h1 : lo ≤ v ∧ v ≤ hi) (ho : offs[(v - lo).toNat]? = some off) (ht : (pc : Int) + off = (tgt : Int)) (k : hg_At p l e R s m args below meth c D cI cA ad o A Q nL w lv tgt st) : hg_At p l e R s m args below meth c D cI cA ad o A Q nL w lv pc (.int (hg_I x) :: st) := by
  obtain ⟨hx, hb, hml, hown, hts, hlk, hA, hK, hE⟩ := B
  intro H locs ls g hl
  subst q
  exact lv_tableIn (off := off) hx hb d (Int.not_lt.mpr h1.1) (Int.not_lt.mpr h1.2) ho ht (k _ _ _ g hl)
theorem z_tabOut (B : hg_B p s m args meth c cc own ws nL D cI cA ad o A) {dflt lo hi : Int} {offs : Array Int} {len : Nat} {x : Int} {tgt : Nat} (d : decode cc pc = .ok (.tableswitch dflt lo hi offs, len)) (q : wr x < lo ∨ hi < wr x) (ht : (pc : Int) + dflt = (tgt : Int)) (k : hg_At p l e R s m args below meth c D cI cA ad o A Q nL w lv tgt st) : hg_At p l e R s m args below meth c D cI cA ad o A Q nL w lv pc (.int (hg_I x) :: st) := by
  obtain ⟨hx, hb, hml, hown, hts, hlk, hA, hK, hE⟩ := B
  intro H locs ls g hl
  exact lv_tableOut hx hb d q ht (k _ _ _ g hl)
theorem z_look (B : hg_B p s m args meth c cc own ws nL D cI cA ad o A) {dflt : Int} {ps : Array (Int × Int)} {len : Nat} {x : Int} {off : Int} {tgt : Nat} (d : decode cc pc = .ok (.lookupswitch dflt ps, len)) (hp : (ps.toList.zip (ps.toList.drop 1)).all (fun (a, next) => a.1 < next.1) = true) (ho : Op.lookupswitch.offset ps.toList dflt (wr x) = off) (ht : (pc : Int) + off = (tgt : Int)) (k : hg_At p l e R s m args below meth c D cI cA ad o A Q nL w lv tgt st) : hg_At p l e R s m args below meth c D cI cA ad o A Q nL w lv pc (.int (hg_I x) :: st) := by
  obtain ⟨hx, hb, hml, hown, hts, hlk, hA, hK, hE⟩ := B
  intro H locs ls g hl
  exact lv_lookup hx hb d hp ho ht (k _ _ _ g hl)
theorem z_get0 (B : hg_B p s m args meth c cc own ws nL D cI cA ad o A) {a idx : Nat} {v : Value} (f : Nat) (d : decode cc pc = .ok (.getfield idx, 3)) (hin : ∀ x ∈ wsX00, x ∈ ws) (ha : a < hg_N o) (hk : hg_kd o a = 0) (hf : f < 14) (hlink : Cond.fieldLink own idx RX0 (TX0 f).2.1 (TX0 f).2.2.1 ∈ ws) (hd : (TX0 f).1 = RX0) (hv : (hg_f0 ad w a)[f]? = some v) (k : hg_At p l e R s m args below meth c D cI cA ad o A Q nL w lv (pc + 3) (v :: st)) : hg_At p l e R s m args below meth c D cI cA ad o A Q nL w lv pc (.ref (ad a) :: st) := by
  obtain ⟨hx, hb, hml, hown, hts, hlk, hA, hK, hE⟩ := B
  intro H locs ls g hl
  exact va_get (D := D) (C := RX0) (T := TX0) (N := 14) hx hb hts hin hown hK g.1 a (by rw [hg_CW_get ha, hg_CE0 hk]) rfl f hf (hts _ hlink) (by rw [hd]; exact fun _ h9 => h9) hv d (k _ _ _ g hl)
theorem z_put0 (B : hg_B p s m args meth c cc own ws nL D cI cA ad o A) {a idx : Nat} {x : Int} (f : Nat) (d : decode cc pc = .ok (.putfield idx, 3)) (hin : ∀ x ∈ wsX00, x ∈ ws) (ha : a < hg_N o) (hk : hg_kd o a = 0) (hf : f < 14) (hlink : Cond.fieldLink own idx RX0 (TX0 f).2.1 (TX0 f).2.2.1 ∈ ws) (hd : (TX0 f).1 = RX0) (hfin : (TX0 f).2.2.2 = false) (ty : FieldType) (hty : parseFieldDescriptor (TX0 f).2.2.1 = some ty) (hn : narrow ty (.int (hg_I x)) = .int (hg_I x)) (hfit : fits ty (.int (hg_I x)) = true) (hs : (hg_f0 ad w a).set f (.int (hg_I x)) = hg_f0 ad (hg_up w a f (wr x)) a) {w1 : hg_W} (h : hg_pt w a f x = some w1) (k : hg_At p l e R s m args below meth c D cI cA ad o A Q nL w1 lv (pc + 3) st) : hg_At p l e R s m args below meth c D cI cA ad o A Q nL w lv pc (.int (hg_I x) :: .ref (ad a) :: st) := by
  obtain ⟨hx, hb, hml, hown, hts, hlk, hA, hK, hE⟩ := B
  intro H locs ls g hl
  refine va_put (D := D) (ty := ty) (C := RX0) (T := TX0) (N := 14) (fs := hg_f0 ad w a) hx hb hts hin tyX0 tyX0_ok nmX0 hown hK g.1 g.2.1 g.2.2 a (by rw [hg_CW_get ha, hg_CE0 hk]) rfl f hf (hts _ hlink) (by rw [hd]; exact fun _ h9 => h9) hfin hty hn hfit hf d (fun H1 locs1 hP hD hS => ?_)
  have e1 : (hg_CW cI cA ad o w).set a (ad a, .inr (0, (hg_f0 ad w a).set f (.int (hg_I x)))) = hg_CW cI cA ad o (hg_up w a f (wr x)) := hg_CW_set (by rw [hg_CE0 hk, hs]) hg_up_ne
  rw [e1] at hP hD
  have e2 := Option.some.inj h
  subst e2
  exact k _ _ _ ⟨hP, hD, hS⟩ hl
theorem z_get1 (B : hg_B p s m args meth c cc own ws nL D cI cA ad o A) {a idx : Nat} {v : Value} (f : Nat) (d : decode cc pc = .ok (.getfield idx, 3)) (hin : ∀ x ∈ wsX10, x ∈ ws) (ha : a < hg_N o) (hk : hg_kd o a = 1) (hf : f < 3) (hlink : Cond.fieldLink own idx RX1 (TX1 f).2.1 (TX1 f).2.2.1 ∈ ws) (hd : (TX1 f).1 = RX1) (hv : (hg_f1 ad w a)[f]? = some v) (k : hg_At p l e R s m args below meth c D cI cA ad o A Q nL w lv (pc + 3) (v :: st)) : hg_At p l e R s m args below meth c D cI cA ad o A Q nL w lv pc (.ref (ad a) :: st) := by
  obtain ⟨hx, hb, hml, hown, hts, hlk, hA, hK, hE⟩ := B
  intro H locs ls g hl
  exact va_get (D := D) (C := RX1) (T := TX1) (N := 3) hx hb hts hin hown hK g.1 a (by rw [hg_CW_get ha, hg_CE1 hk]) rfl f hf (hts _ hlink) (by rw [hd]; exact fun _ h9 => h9) hv d (k _ _ _ g hl)
theorem z_put1 (B : hg_B p s m args meth c cc own ws nL D cI cA ad o A) {a idx : Nat} {x : Int} (f : Nat) (d : decode cc pc = .ok (.putfield idx, 3)) (hin : ∀ x ∈ wsX10, x ∈ ws) (ha : a < hg_N o) (hk : hg_kd o a = 1) (hf : f < 3) (hlink : Cond.fieldLink own idx RX1 (TX1 f).2.1 (TX1 f).2.2.1 ∈ ws) (hd : (TX1 f).1 = RX1) (hfin : (TX1 f).2.2.2 = false) (ty : FieldType) (hty : parseFieldDescriptor (TX1 f).2.2.1 = some ty) (hn : narrow ty (.int (hg_I x)) = .int (hg_I x)) (hfit : fits ty (.int (hg_I x)) = true) (hs : (hg_f1 ad w a).set f (.int (hg_I x)) = hg_f1 ad (hg_up w a f (wr x)) a) {w1 : hg_W} (h : hg_pt w a f x = some w1) (k : hg_At p l e R s m args below meth c D cI cA ad o A Q nL w1 lv (pc + 3) st) : hg_At p l e R s m args below meth c D cI cA ad o A Q nL w lv pc (.int (hg_I x) :: .ref (ad a) :: st) := by
  obtain ⟨hx, hb, hml, hown, hts, hlk, hA, hK, hE⟩ := B
  intro H locs ls g hl
  refine va_put (D := D) (ty := ty) (C := RX1) (T := TX1) (N := 3) (fs := hg_f1 ad w a) hx hb hts hin tyX1 tyX1_ok nmX1 hown hK g.1 g.2.1 g.2.2 a (by rw [hg_CW_get ha, hg_CE1 hk]) rfl f hf (hts _ hlink) (by rw [hd]; exact fun _ h9 => h9) hfin hty hn hfit hf d (fun H1 locs1 hP hD hS => ?_)
  have e1 : (hg_CW cI cA ad o w).set a (ad a, .inr (1, (hg_f1 ad w a).set f (.int (hg_I x)))) = hg_CW cI cA ad o (hg_up w a f (wr x)) := hg_CW_set (by rw [hg_CE1 hk, hs]) hg_up_ne
  rw [e1] at hP hD
  have e2 := Option.some.inj h
  subst e2
  exact k _ _ _ ⟨hP, hD, hS⟩ hl
theorem z_get2 (B : hg_B p s m args meth c cc own ws nL D cI cA ad o A) {a idx : Nat} {v : Value} (f : Nat) (d : decode cc pc = .ok (.getfield idx, 3)) (hin : ∀ x ∈ wsX20, x ∈ ws) (ha : a < hg_N o) (hk : hg_kd o a = 2) (hf : f < 9) (hlink : Cond.fieldLink own idx RX2 (TX2 f).2.1 (TX2 f).2.2.1 ∈ ws) (hd : (TX2 f).1 = RX2) (hv : (hg_f2 ad w a)[f]? = some v) (k : hg_At p l e R s m args below meth c D cI cA ad o A Q nL w lv (pc + 3) (v :: st)) : hg_At p l e R s m args below meth c D cI cA ad o A Q nL w lv pc (.ref (ad a) :: st) := by
  obtain ⟨hx, hb, hml, hown, hts, hlk, hA, hK, hE⟩ := B
  intro H locs ls g hl
  exact va_get (D := D) (C := RX2) (T := TX2) (N := 9) hx hb hts hin hown hK g.1 a (by rw [hg_CW_get ha, hg_CE2 hk]) rfl f hf (hts _ hlink) (by rw [hd]; exact fun _ h9 => h9) hv d (k _ _ _ g hl)
theorem z_put2 (B : hg_B p s m args meth c cc own ws nL D cI cA ad o A) {a idx : Nat} {x : Int} (f : Nat) (d : decode cc pc = .ok (.putfield idx, 3)) (hin : ∀ x ∈ wsX20, x ∈ ws) (ha : a < hg_N o) (hk : hg_kd o a = 2) (hf : f < 9) (hlink : Cond.fieldLink own idx RX2 (TX2 f).2.1 (TX2 f).2.2.1 ∈ ws) (hd : (TX2 f).1 = RX2) (hfin : (TX2 f).2.2.2 = false) (ty : FieldType) (hty : parseFieldDescriptor (TX2 f).2.2.1 = some ty) (hn : narrow ty (.int (hg_I x)) = .int (hg_I x)) (hfit : fits ty (.int (hg_I x)) = true) (hs : (hg_f2 ad w a).set f (.int (hg_I x)) = hg_f2 ad (hg_up w a f (wr x)) a) {w1 : hg_W} (h : hg_pt w a f x = some w1) (k : hg_At p l e R s m args below meth c D cI cA ad o A Q nL w1 lv (pc + 3) st) : hg_At p l e R s m args below meth c D cI cA ad o A Q nL w lv pc (.int (hg_I x) :: .ref (ad a) :: st) := by
  obtain ⟨hx, hb, hml, hown, hts, hlk, hA, hK, hE⟩ := B
  intro H locs ls g hl
  refine va_put (D := D) (ty := ty) (C := RX2) (T := TX2) (N := 9) (fs := hg_f2 ad w a) hx hb hts hin tyX2 tyX2_ok nmX2 hown hK g.1 g.2.1 g.2.2 a (by rw [hg_CW_get ha, hg_CE2 hk]) rfl f hf (hts _ hlink) (by rw [hd]; exact fun _ h9 => h9) hfin hty hn hfit hf d (fun H1 locs1 hP hD hS => ?_)
  have e1 : (hg_CW cI cA ad o w).set a (ad a, .inr (2, (hg_f2 ad w a).set f (.int (hg_I x)))) = hg_CW cI cA ad o (hg_up w a f (wr x)) := hg_CW_set (by rw [hg_CE2 hk, hs]) hg_up_ne
  rw [e1] at hP hD
  have e2 := Option.some.inj h
  subst e2
  exact k _ _ _ ⟨hP, hD, hS⟩ hl
theorem z_get3 (B : hg_B p s m args meth c cc own ws nL D cI cA ad o A) {a idx : Nat} {v : Value} (f : Nat) (d : decode cc pc = .ok (.getfield idx, 3)) (hin : ∀ x ∈ wsX30, x ∈ ws) (ha : a < hg_N o) (hk : hg_kd o a = 3) (hf : f < 4) (hlink : Cond.fieldLink own idx RX3 (TX3 f).2.1 (TX3 f).2.2.1 ∈ ws) (hd : (TX3 f).1 = RX3) (hv : (hg_f3 ad w a)[f]? = some v) (k : hg_At p l e R s m args below meth c D cI cA ad o A Q nL w lv (pc + 3) (v :: st)) : hg_At p l e R s m args below meth c D cI cA ad o A Q nL w lv pc (.ref (ad a) :: st) := by
  obtain ⟨hx, hb, hml, hown, hts, hlk, hA, hK, hE⟩ := B
  intro H locs ls g hl
  exact va_get (D := D) (C := RX3) (T := TX3) (N := 4) hx hb hts hin hown hK g.1 a (by rw [hg_CW_get ha, hg_CE3 hk]) rfl f hf (hts _ hlink) (by rw [hd]; exact fun _ h9 => h9) hv d (k _ _ _ g hl)
theorem z_put3 (B : hg_B p s m args meth c cc own ws nL D cI cA ad o A) {a idx : Nat} {x : Int} (f : Nat) (d : decode cc pc = .ok (.putfield idx, 3)) (hin : ∀ x ∈ wsX30, x ∈ ws) (ha : a < hg_N o) (hk : hg_kd o a = 3) (hf : f < 4) (hlink : Cond.fieldLink own idx RX3 (TX3 f).2.1 (TX3 f).2.2.1 ∈ ws) (hd : (TX3 f).1 = RX3) (hfin : (TX3 f).2.2.2 = false) (ty : FieldType) (hty : parseFieldDescriptor (TX3 f).2.2.1 = some ty) (hn : narrow ty (.int (hg_I x)) = .int (hg_I x)) (hfit : fits ty (.int (hg_I x)) = true) (hs : (hg_f3 ad w a).set f (.int (hg_I x)) = hg_f3 ad (hg_up w a f (wr x)) a) {w1 : hg_W} (h : hg_pt w a f x = some w1) (k : hg_At p l e R s m args below meth c D cI cA ad o A Q nL w1 lv (pc + 3) st) : hg_At p l e R s m args below meth c D cI cA ad o A Q nL w lv pc (.int (hg_I x) :: .ref (ad a) :: st) := by
  obtain ⟨hx, hb, hml, hown, hts, hlk, hA, hK, hE⟩ := B
  intro H locs ls g hl
  refine va_put (D := D) (ty := ty) (C := RX3) (T := TX3) (N := 4) (fs := hg_f3 ad w a) hx hb hts hin tyX3 tyX3_ok nmX3 hown hK g.1 g.2.1 g.2.2 a (by rw [hg_CW_get ha, hg_CE3 hk]) rfl f hf (hts _ hlink) (by rw [hd]; exact fun _ h9 => h9) hfin hty hn hfit hf d (fun H1 locs1 hP hD hS => ?_)
  have e1 : (hg_CW cI cA ad o w).set a (ad a, .inr (3, (hg_f3 ad w a).set f (.int (hg_I x)))) = hg_CW cI cA ad o (hg_up w a f (wr x)) := hg_CW_set (by rw [hg_CE3 hk, hs]) hg_up_ne
  rw [e1] at hP hD
  have e2 := Option.some.inj h
  subst e2
  exact k _ _ _ ⟨hP, hD, hS⟩ hl
theorem z_get4 (B : hg_B p s m args meth c cc own ws nL D cI cA ad o A) {a idx : Nat} {v : Value} (f : Nat) (d : decode cc pc = .ok (.getfield idx, 3)) (hin : ∀ x ∈ wsX40, x ∈ ws) (ha : a < hg_N o) (hk : hg_kd o a = 4) (hf : f < 9) (hlink : Cond.fieldLink own idx RX4 (TX4 f).2.1 (TX4 f).2.2.1 ∈ ws) (hd : (TX4 f).1 = RX4) (hv : (hg_f4 ad w a)[f]? = some v) (k : hg_At p l e R s m args below meth c D cI cA ad o A Q nL w lv (pc + 3) (v :: st)) : hg_At p l e R s m args below meth c D cI cA ad o A Q nL w lv pc (.ref (ad a) :: st) := by
  obtain ⟨hx, hb, hml, hown, hts, hlk, hA, hK, hE⟩ := B
  intro H locs ls g hl
  exact va_get (D := D) (C := RX4) (T := TX4) (N := 9) hx hb hts hin hown hK g.1 a (by rw [hg_CW_get ha, hg_CE4 hk]) rfl f hf (hts _ hlink) (by rw [hd]; exact fun _ h9 => h9) hv d (k _ _ _ g hl)
theorem z_put4 (B : hg_B p s m args meth c cc own ws nL D cI cA ad o A) {a idx : Nat} {x : Int} (f : Nat) (d : decode cc pc = .ok (.putfield idx, 3)) (hin : ∀ x ∈ wsX40, x ∈ ws) (ha : a < hg_N o) (hk : hg_kd o a = 4) (hf : f < 9) (hlink : Cond.fieldLink own idx RX4 (TX4 f).2.1 (TX4 f).2.2.1 ∈ ws) (hd : (TX4 f).1 = RX4) (hfin : (TX4 f).2.2.2 = false) (ty : FieldType) (hty : parseFieldDescriptor (TX4 f).2.2.1 = some ty) (hn : narrow ty (.int (hg_I x)) = .int (hg_I x)) (hfit : fits ty (.int (hg_I x)) = true) (hs : (hg_f4 ad w a).set f (.int (hg_I x)) = hg_f4 ad (hg_up w a f (wr x)) a) {w1 : hg_W} (h : hg_pt w a f x = some w1) (k : hg_At p l e R s m args below meth c D cI cA ad o A Q nL w1 lv (pc + 3) st) : hg_At p l e R s m args below meth c D cI cA ad o A Q nL w lv pc (.int (hg_I x) :: .ref (ad a) :: st) := by
  obtain ⟨hx, hb, hml, hown, hts, hlk, hA, hK, hE⟩ := B
  intro H locs ls g hl
  refine va_put (D := D) (ty := ty) (C := RX4) (T := TX4) (N := 9) (fs := hg_f4 ad w a) hx hb hts hin tyX4 tyX4_ok nmX4 hown hK g.1 g.2.1 g.2.2 a (by rw [hg_CW_get ha, hg_CE4 hk]) rfl f hf (hts _ hlink) (by rw [hd]; exact fun _ h9 => h9) hfin hty hn hfit hf d (fun H1 locs1 hP hD hS => ?_)
  have e1 : (hg_CW cI cA ad o w).set a (ad a, .inr (4, (hg_f4 ad w a).set f (.int (hg_I x)))) = hg_CW cI cA ad o (hg_up w a f (wr x)) := hg_CW_set (by rw [hg_CE4 hk, hs]) hg_up_ne
  rw [e1] at hP hD
  have e2 := Option.some.inj h
  subst e2
  exact k _ _ _ ⟨hP, hD, hS⟩ hl
theorem z_get5 (B : hg_B p s m args meth c cc own ws nL D cI cA ad o A) {a idx : Nat} {v : Value} (f : Nat) (d : decode cc pc = .ok (.getfield idx, 3)) (hin : ∀ x ∈ wsX50, x ∈ ws) (ha : a < hg_N o) (hk : hg_kd o a = 5) (hf : f < 37) (hlink : Cond.fieldLink own idx RX5 (TX5 f).2.1 (TX5 f).2.2.1 ∈ ws) (hd : (TX5 f).1 = RX5) (hv : (hg_f5 ad w a)[f]? = some v) (k : hg_At p l e R s m args below meth c D cI cA ad o A Q nL w lv (pc + 3) (v :: st)) : hg_At p l e R s m args below meth c D cI cA ad o A Q nL w lv pc (.ref (ad a) :: st) := by
  obtain ⟨hx, hb, hml, hown, hts, hlk, hA, hK, hE⟩ := B
  intro H locs ls g hl
  exact va_get (D := D) (C := RX5) (T := TX5) (N := 37) hx hb hts hin hown hK g.1 a (by rw [hg_CW_get ha, hg_CE5 hk]) rfl f hf (hts _ hlink) (by rw [hd]; exact fun _ h9 => h9) hv d (k _ _ _ g hl)
theorem z_put5 (B : hg_B p s m args meth c cc own ws nL D cI cA ad o A) {a idx : Nat} {x : Int} (f : Nat) (d : decode cc pc = .ok (.putfield idx, 3)) (hin : ∀ x ∈ wsX50, x ∈ ws) (ha : a < hg_N o) (hk : hg_kd o a = 5) (hf : f < 37) (hlink : Cond.fieldLink own idx RX5 (TX5 f).2.1 (TX5 f).2.2.1 ∈ ws) (hd : (TX5 f).1 = RX5) (hfin : (TX5 f).2.2.2 = false) (ty : FieldType) (hty : parseFieldDescriptor (TX5 f).2.2.1 = some ty) (hn : narrow ty (.int (hg_I x)) = .int (hg_I x)) (hfit : fits ty (.int (hg_I x)) = true) (hs : (hg_f5 ad w a).set f (.int (hg_I x)) = hg_f5 ad (hg_up w a f (wr x)) a) {w1 : hg_W} (h : hg_pt w a f x = some w1) (k : hg_At p l e R s m args below meth c D cI cA ad o A Q nL w1 lv (pc + 3) st) : hg_At p l e R s m args below meth c D cI cA ad o A Q nL w lv pc (.int (hg_I x) :: .ref (ad a) :: st) := by
  obtain ⟨hx, hb, hml, hown, hts, hlk, hA, hK, hE⟩ := B
  intro H locs ls g hl
  refine va_put (D := D) (ty := ty) (C := RX5) (T := TX5) (N := 37) (fs := hg_f5 ad w a) hx hb hts hin tyX5 tyX5_ok nmX5 hown hK g.1 g.2.1 g.2.2 a (by rw [hg_CW_get ha, hg_CE5 hk]) rfl f hf (hts _ hlink) (by rw [hd]; exact fun _ h9 => h9) hfin hty hn hfit hf d (fun H1 locs1 hP hD hS => ?_)
  have e1 : (hg_CW cI cA ad o w).set a (ad a, .inr (5, (hg_f5 ad w a).set f (.int (hg_I x)))) = hg_CW cI cA ad o (hg_up w a f (wr x)) := hg_CW_set (by rw [hg_CE5 hk, hs]) hg_up_ne
  rw [e1] at hP hD
  have e2 := Option.some.inj h
  subst e2
  exact k _ _ _ ⟨hP, hD, hS⟩ hl
/-- putfield of a Tape's 'code': a row becomes it -/
theorem z_putcode (B : hg_B p s m args meth c cc own ws nL D cI cA ad o A) {a a2 idx : Nat} {w1 : hg_W} (d : decode cc pc = .ok (.putfield idx, 3)) (h : hg_pr w a 2 (a2 : Int) = some w1) (hin : ∀ x ∈ wsX20, x ∈ ws) (ha : a < hg_N o) (hk : hg_kd o a = 2) (hlink : Cond.fieldLink own idx RX2 (TX2 2).2.1 (TX2 2).2.2.1 ∈ ws) (k : hg_At p l e R s m args below meth c D cI cA ad o A Q nL w1 lv (pc + 3) st) : hg_At p l e R s m args below meth c D cI cA ad o A Q nL w lv pc (.ref (ad a2) :: .ref (ad a) :: st) := by
  obtain ⟨hx, hb, hml, hown, hts, hlk, hA, hK, hE⟩ := B
  intro H locs ls g hl
  refine va_put (D := D) (ty := .array .int) (C := RX2) (T := TX2) (N := 9) hx hb hts hin tyX2 tyX2_ok nmX2 hown hK g.1 g.2.1 g.2.2 a (by rw [hg_CW_get ha, hg_CE2 hk]) rfl 2 (by decide) (hts _ hlink) (fun _ h9 => h9) rfl (by decide +kernel) rfl rfl (Nat.le_of_ble_eq_true rfl) d (fun H1 locs1 hP hD hS => ?_)
  have e1 : (hg_CW cI cA ad o w).set a (ad a, .inr (2, (hg_f2 ad w a).set 2 (.ref (ad a2)))) = hg_CW cI cA ad o (hg_up w a 2 (a2 : Int)) := hg_CW_set (by rw [hg_CE2 hk]; simp [hg_f2, hg_up]) hg_up_ne
  rw [e1] at hP hD
  have e2 := Option.some.inj h
  subst e2
  exact k _ _ _ ⟨hP, hD, hS⟩ hl
theorem z_iald (ho : o = 0 ∨ o = 1) (B : hg_B p s m args meth c cc own ws nL D cI cA ad o A) {a : Nat} {x v : Int} (d : decode cc pc = .ok (.iaload, 1)) (h : hg_ag o w a x = some v) (k : hg_At p l e R s m args below meth c D cI cA ad o A Q nL w lv (pc + 1) (.int (hg_I v) :: st)) : hg_At p l e R s m args below meth c D cI cA ad o A Q nL w lv pc (.int (hg_I x) :: .ref (ad a) :: st) := by
  obtain ⟨hx, hb, hml, hown, hts, hlk, hA, hK, hE⟩ := B
  intro H locs ls g hl
  unfold hg_ag at h
  by_cases q : 0 ≤ wr x ∧ wr x < (hg_ln o a : Int)
  · rw [if_pos q] at h
    have hv := Option.some.inj h
    obtain ⟨h1, h2⟩ := hg_ln_kd ho (c := a) (by omega)
    refine va_iald hx hb hK g.1 a 0 (cA := cI) (n := hg_ln o a) (f := fun j => hg_I (w a j)) (by rw [hg_CW_get h1, hg_CE6 h2]) rfl (hg_in q) d ?_
    subst hv
    exact k _ _ _ g hl
  · rw [if_neg q] at h
    cases h
theorem z_iast (ho : o = 0 ∨ o = 1) (B : hg_B p s m args meth c cc own ws nL D cI cA ad o A) {a : Nat} {x v : Int} {w1 : hg_W} (d : decode cc pc = .ok (.iastore, 1)) (h : hg_as o w a x v = some w1) (k : hg_At p l e R s m args below meth c D cI cA ad o A Q nL w1 lv (pc + 1) st) : hg_At p l e R s m args below meth c D cI cA ad o A Q nL w lv pc (.int (hg_I v) :: .int (hg_I x) :: .ref (ad a) :: st) := by
  obtain ⟨hx, hb, hml, hown, hts, hlk, hA, hK, hE⟩ := B
  intro H locs ls g hl
  unfold hg_as at h
  by_cases q : 0 ≤ wr x ∧ wr x < (hg_ln o a : Int)
  · rw [if_pos q] at h
    have hv := Option.some.inj h
    obtain ⟨h1, h2⟩ := hg_ln_kd ho (c := a) (by omega)
    refine va_iast hx hb hK g.1 g.2.1 g.2.2 a 0 (cA := cI) (n := hg_ln o a) (f := fun j => hg_I (w a j)) (by rw [hg_CW_get h1, hg_CE6 h2]) rfl (hg_in q) d (fun H1 locs1 hP hD hS => ?_)
    have e1 : (hg_CW cI cA ad o w).set a (ad a, .inl (cI, hg_ln o a, .inl (upd (fun j => hg_I (w a j)) (hg_I x).toNatClampNeg (hg_I v)))) = hg_CW cI cA ad o w1 := hg_CW_set (by
      rw [hg_CE6 h2, ← hv]
      refine congrArg (fun f => Sum.inl (cI, hg_ln o a, Sum.inl f)) (funext fun j => ?_)
      show hg_I (hg_up w a (wr x).toNat (wr v) a j) = upd (fun j => hg_I (w a j)) (wr x).toNat (hg_I v) j
      unfold hg_up upd
      rw [if_pos rfl]
      split
      · exact hg_I_wr v
      · rfl) (by rw [← hv]; exact hg_up_ne)
    rw [e1] at hP hD
    exact k _ _ _ ⟨hP, hD, hS⟩ hl
  · rw [if_neg q] at h
    cases h
theorem z_aald (B : hg_B p s m args meth c cc own ws nL D cI cA ad o A) (ho : o = 0) {a a2 : Nat} {x : Int} (d : decode cc pc = .ok (.aaload, 1)) (h : hg_ar a x = some a2) (k : hg_At p l e R s m args below meth c D cI cA ad o A Q nL w lv (pc + 1) (.ref (ad a2) :: st)) : hg_At p l e R s m args below meth c D cI cA ad o A Q nL w lv pc (.int (hg_I x) :: .ref (ad a) :: st) := by
  obtain ⟨hx, hb, hml, hown, hts, hlk, hA, hK, hE⟩ := B
  intro H locs ls g hl
  subst ho
  unfold hg_ar at h
  by_cases q : 0 ≤ wr x ∧ wr x < (hg_lq 0 a : Int)
  · rw [if_pos q] at h
    have hv := Option.some.inj h
    obtain ⟨h1, h2⟩ := hg_lq_kd (c := a) (by omega)
    have hc := g.1 a _ (hg_CW_get h1)
    rw [hg_CE7 h2] at hc
    have hlt : (hg_I x).toNatClampNeg < hg_lq 0 a := by show (wr x).toNat < _; omega
    have hin := hg_in q
    refine W.aald (v := .ref (ad a2)) (cell := vp_cell cA (hg_lq 0 a, .inr (.inr (.inr (.inr (fun j => some (ad (a + 1 + j)))))))) (ty := .array .int) hx hb hc ((hK.2 1 _ rfl).1 (hg_lq 0 a) (fun j => va_rf (some (ad (a + 1 + j))))) rfl (fun q => by cases q) (by show ¬ (hg_I x < 0 ∨ (arrV _ _ _).slots.size ≤ _); rw [arrV_size]; exact hin) (by show (arrV _ _ _).slots[_]? = _; rw [arrV_read _ _ hlt]; subst hv; rfl) rfl rfl d (k _ _ _ g hl)
  · rw [if_neg q] at h
    cases h
theorem z_alen (ho : o = 0 ∨ o = 1) (B : hg_B p s m args meth c cc own ws nL D cI cA ad o A) {a : Nat} {n : Int} (d : decode cc pc = .ok (.arraylength, 1)) (h : hg_al o a = some n) (k : hg_At p l e R s m args below meth c D cI cA ad o A Q nL w lv (pc + 1) (.int (hg_I n) :: st)) : hg_At p l e R s m args below meth c D cI cA ad o A Q nL w lv pc (.ref (ad a) :: st) := by
  obtain ⟨hx, hb, hml, hown, hts, hlk, hA, hK, hE⟩ := B
  intro H locs ls g hl
  unfold hg_al at h
  by_cases q : 0 < hg_ln o a
  · rw [if_pos q] at h
    have hv := Option.some.inj h
    obtain ⟨ha, hk⟩ := hg_ln_kd ho q
    subst hv
    exact va_alen hx hb hK g.1 a 0 (cA := cI) (by rw [hg_CW_get ha, hg_CE6 hk]) (ty := .int) rfl (v := hg_I (hg_ln o a : Int)) (by show Int32.ofNat (hg_ln o a) = Int32.ofInt _; exact Int32.ofInt_eq_ofNat.symm) d (k _ _ _ g hl)
  · rw [if_neg q] at h
    cases h
theorem z_lv (B : hg_B p s m args meth c cc own ws nL D cI cA ad o A) {lv' : List (Nat × Value)} (is : List Nat) (h : lv_pick lv is = lv') (k : hg_At p l e R s m args below meth c D cI cA ad o A Q nL w lv' pc st) : hg_At p l e R s m args below meth c D cI cA ad o A Q nL w lv pc st := by
  intro H locs ls g hl
  exact k _ _ _ g (lv_sub hl is h)
theorem hg_nfw : nativeFrameWords "java/lang/System" "arraycopy" 5 = 7 := by decide +kernel
theorem z_copy (B : hg_B p s m args meth c cc own ws nL D cI cA ad o A) (ho : o = 0) {idx c0 c1 : Nat} {sp dp n : Int} {w1 : hg_W} (d : decode cc pc = .ok (.invokestatic idx, 3)) (hl1 : Cond.methodLink own idx arraycopyName ∈ ws) (hl2 : Cond.native arraycopyName ∈ ws) (hl3 : Cond.static arraycopyName ∈ ws) (hl4 : Cond.initialized "java/lang/System" ∈ ws) (hR : 1 ≤ R.frames ∧ (st.map fun v => v.category).sum + 18 ≤ R.locals) (h : hg_cp w c0 sp c1 dp n = some w1) (k : hg_At p l e R s m args below meth c D cI cA ad o A Q nL w1 lv (pc + 3) st) : hg_At p l e R s m args below meth c D cI cA ad o A Q nL w lv pc (.int (hg_I n) :: .int (hg_I dp) :: .ref (ad c1) :: .int (hg_I sp) :: .ref (ad c0) :: st) := by
  obtain ⟨hx, hb, hml, hown, hts, hlk, hA, hK, hE⟩ := B
  intro H locs ls g hl
  subst ho
  unfold hg_cp at h
  by_cases q : 0 < hg_ln 0 c0 ∧ 0 < hg_ln 0 c1 ∧ 0 ≤ wr sp ∧ 0 ≤ wr dp ∧ 0 ≤ wr n ∧ wr sp + wr n ≤ (hg_ln 0 c0 : Int) ∧ wr dp + wr n ≤ (hg_ln 0 c1 : Int)
  · rw [if_pos q] at h
    have hv := Option.some.inj h
    obtain ⟨qa, qb, q1, q2, q3, q4, q5⟩ := q
    obtain ⟨ha0, hk0⟩ := hg_ln_kd (Or.inl rfl) qa
    obtain ⟨ha1, hk1⟩ := hg_ln_kd (Or.inl rfl) qb
    have nn : ∀ x : Int, 0 ≤ wr x → ¬ hg_I x < 0 := fun x hx q => by
      rw [show (0 : Int32) = hg_I 0 from rfl, hg_I_lt] at q
      have : wr 0 = 0 := rfl
      omega
    refine va_copyi hx hb (by rw [hml]; exact hl.1.symm) hown (hts _ hl1) (hts _ hl2) (hts _ hl3) (hts _ hl4) hK g.1 g.2.1 g.2.2 c0 c1 0 0 (c0 := cI) (c1 := cI) (n0 := hg_ln 0 c0) (n1 := hg_ln 0 c1) (f := fun j => hg_I (w c0 j)) (g := fun j => hg_I (w c1 j)) (by rw [hg_CW_get ha0, hg_CE6 hk0]) (by rw [hg_CW_get ha1, hg_CE6 hk1]) rfl rfl rfl (nn _ q1) (nn _ q2) (nn _ q3) (by show (wr sp).toNat + (wr n).toNat ≤ _; omega) (by show (wr dp).toNat + (wr n).toNat ≤ _; omega) (fun i _ => rfl) hR.1 (by rw [hg_nfw]; exact hR.2) d (fun H1 locs1 hP hD hS => ?_)
    have e1 : (hg_CW cI cA ad 0 w).set c1 (ad c1, .inl (cI, hg_ln 0 c1, .inl (va_cpy (fun j => hg_I (w c0 j)) (fun j => hg_I (w c1 j)) (hg_I sp).toNatClampNeg (hg_I dp).toNatClampNeg (hg_I n).toNatClampNeg))) = hg_CW cI cA ad 0 w1 := hg_CW_set (by
      rw [hg_CE6 hk1, ← hv]
      refine congrArg (fun f => Sum.inl (cI, hg_ln 0 c1, Sum.inl f)) (funext fun j => ?_)
      simp only [if_pos]
      show hg_I (if (wr dp).toNat ≤ j ∧ j < (wr dp).toNat + (wr n).toNat then w c0 ((wr sp).toNat + (j - (wr dp).toNat)) else w c1 j) = if (wr dp).toNat ≤ j ∧ j < (wr dp).toNat + (wr n).toNat then hg_I (w c0 ((wr sp).toNat + (j - (wr dp).toNat))) else hg_I (w c1 j)
      split <;> rfl) (fun c' hc' => by rw [← hv]; funext k'; simp [hc'])
    rw [e1] at hP hD
    exact k _ _ _ ⟨hP, hD, hS⟩ hl
  · rw [if_neg q] at h
    cases h
theorem z_mmax (B : hg_B p s m args meth c cc own ws nL D cI cA ad o A) {idx : Nat} {x y : Int} (d : decode cc pc = .ok (.invokestatic idx, 3)) (hl1 : Cond.methodLink own idx Lib.Math.max.name ∈ ws) (hl2 : Cond.static Lib.Math.max.name ∈ ws) (hl3 : Cond.initialized "java/lang/Math" ∈ ws) (hl4 : Cond.code Lib.Math.max.name Lib.Math.max.code 2 (some .int) ∈ ws) (hR : 1 ≤ R.frames ∧ (st.map fun v => v.category).sum + 13 ≤ R.locals) (k : hg_At p l e R s m args below meth c D cI cA ad o A Q nL w lv (pc + 3) (.int (hg_I (hg_mx x y)) :: st)) : hg_At p l e R s m args below meth c D cI cA ad o A Q nL w lv pc (.int (hg_I y) :: .int (hg_I x) :: st) := by
  obtain ⟨hx, hb, hml, hown, hts, hlk, hA, hK, hE⟩ := B
  intro H locs ls g hl
  refine va_mmax hx hb (by rw [hml]; exact hl.1.symm) hown (hts _ hl1) (hts _ hl2) (hts _ hl3) (hts _ hl4) hR.1 hR.2 (Nat.zero_le _) (Nat.zero_le _) d ?_
  have e1 : (if hg_I x < hg_I y then hg_I y else hg_I x) = hg_I (hg_mx x y) := by
    unfold hg_mx
    by_cases q : wr x < wr y
    · rw [if_pos q, if_pos (hg_I_lt.mpr q)]
    · rw [if_neg q, if_neg (fun z => q (hg_I_lt.mp z))]
  rw [e1]
  exact k _ _ _ g hl
theorem z_mmin (B : hg_B p s m args meth c cc own ws nL D cI cA ad o A) {idx : Nat} {x y : Int} (d : decode cc pc = .ok (.invokestatic idx, 3)) (hl1 : Cond.methodLink own idx Lib.Math.min.name ∈ ws) (hl2 : Cond.static Lib.Math.min.name ∈ ws) (hl3 : Cond.initialized "java/lang/Math" ∈ ws) (hl4 : Cond.code Lib.Math.min.name Lib.Math.min.code 2 (some .int) ∈ ws) (hR : 1 ≤ R.frames ∧ (st.map fun v => v.category).sum + 13 ≤ R.locals) (k : hg_At p l e R s m args below meth c D cI cA ad o A Q nL w lv (pc + 3) (.int (hg_I (hg_mn x y)) :: st)) : hg_At p l e R s m args below meth c D cI cA ad o A Q nL w lv pc (.int (hg_I y) :: .int (hg_I x) :: st) := by
  obtain ⟨hx, hb, hml, hown, hts, hlk, hA, hK, hE⟩ := B
  intro H locs ls g hl
  refine va_mmin hx hb (by rw [hml]; exact hl.1.symm) hown (hts _ hl1) (hts _ hl2) (hts _ hl3) (hts _ hl4) hR.1 hR.2 (Nat.zero_le _) (Nat.zero_le _) d ?_
  have e1 : (if hg_I y < hg_I x then hg_I y else hg_I x) = hg_I (hg_mn x y) := by
    unfold hg_mn
    by_cases q : wr y < wr x
    · rw [if_pos q, if_pos (hg_I_lt.mpr q)]
    · rw [if_neg q, if_neg (fun z => q (hg_I_lt.mp z))]
  rw [e1]
  exact k _ _ _ g hl
theorem z_calliV (B : hg_B p s m args meth c cc own ws nL D cI cA ad o A) {idx n maxL : Nat} {y : MethodName} {bytes : ByteArray} {ret : Option FieldType} {ws2 ws2' : List Cond} {rm : Room} {As st0 : List Value} {w1 : hg_W} {r : Int} {a ci N : Nat} {C : String} {T : u_T} (d : decode cc pc = .ok (.invokevirtual idx, 3)) (hM : hg_Mi l y ws2 rm D cI cA ad o w (.ref (ad a) :: As) w1 r) (hG : GoodIn ws (wsV own idx C y ws2)) (hw : ws2 = Cond.code y bytes maxL ret :: ws2') (hrm : rm.cells = 0 ∧ rm.slots = 0) (hd : y.cls = C ∧ y.cls ≠ "java/lang/invoke/MethodHandle" ∧ y.cls ≠ "java/lang/invoke/VarHandle" ∧ (parseMethodDescriptor y.desc).map (fun d => d.parameters.length) = some n) (hR : rm.frames + 1 ≤ R.frames ∧ 8 + (maxL + 11) + rm.locals ≤ R.locals) (ha : a < hg_N o) (hk : hg_kd o a = ci) (hk6 : ci < 6) (hcl : vwCl[ci]? = some (C, T, N)) (hn : As.length = n) (hst : st0 = As.reverse ++ .ref (ad a) :: st) (hcat : (st.map fun v => v.category).sum ≤ 8) (k : hg_At p l e R s m args below meth c D cI cA ad o A Q nL w1 lv (pc + 3) (.int (hg_I r) :: st)) : hg_At p l e R s m args below meth c D cI cA ad o A Q nL w lv pc st0 := by
  have B0 := B
  obtain ⟨hx, hb, hml, hown, hts, hlk, hA, hK, hE⟩ := B
  intro H locs ls g hl
  have hFc : ∀ q, va_A (hg_CW cI cA ad o w) H.size q → A q := hg_CA g.2.1 (fun q h => hA q (Nat.le_trans g.2.2.1 h))
  have hrecv : ∃ cellB : Cell, H[ad a]? = some cellB ∧ cellB.vm.isStatics = false ∧ s.vm.findClass C = some cellB.cls := by
    have h6 : hg_kd o a = 0 ∨ hg_kd o a = 1 ∨ hg_kd o a = 2 ∨ hg_kd o a = 3 ∨ hg_kd o a = 4 ∨ hg_kd o a = 5 := by omega
    rcases h6 with h6 | h6 | h6 | h6 | h6 | h6
    · exact va_recv (q := (C, T, N)) (ci := 0) (q0 := a) (fs := hg_f0 ad w a) hK g.1 (by rw [← hcl, ← hk, h6]) (by rw [hg_CW_get ha, hg_CE0 h6])
    · exact va_recv (q := (C, T, N)) (ci := 1) (q0 := a) (fs := hg_f1 ad w a) hK g.1 (by rw [← hcl, ← hk, h6]) (by rw [hg_CW_get ha, hg_CE1 h6])
    · exact va_recv (q := (C, T, N)) (ci := 2) (q0 := a) (fs := hg_f2 ad w a) hK g.1 (by rw [← hcl, ← hk, h6]) (by rw [hg_CW_get ha, hg_CE2 h6])
    · exact va_recv (q := (C, T, N)) (ci := 3) (q0 := a) (fs := hg_f3 ad w a) hK g.1 (by rw [← hcl, ← hk, h6]) (by rw [hg_CW_get ha, hg_CE3 h6])
    · exact va_recv (q := (C, T, N)) (ci := 4) (q0 := a) (fs := hg_f4 ad w a) hK g.1 (by rw [← hcl, ← hk, h6]) (by rw [hg_CW_get ha, hg_CE4 h6])
    · exact va_recv (q := (C, T, N)) (ci := 5) (q0 := a) (fs := hg_f5 ad w a) hK g.1 (by rw [← hcl, ← hk, h6]) (by rw [hg_CW_get ha, hg_CE5 h6])
  refine va_calli (va_runV (As := As) (rest := st) ⟨hx, hb, hml, hown, hts⟩ (hM H.size) (cwV n hts hG hw hrm.1 hrm.2 hd hR) ⟨hg_blind, hrecv, fun U hU hW => ⟨rfl, by rw [hU], by rw [hU]; exact g.1, va_K.moved hW.alike hK, g.2.1.weaken (fun _ _ _ _ => trivial), fun ho => hg_ex.call (hE ho) g.2.2 hFc hU hW⟩⟩ rfl hn hl.1 hst (lv_room hcat) d ⟨Nat.zero_le _, Nat.zero_le _⟩) g.2.2 (fun q _ h => hFc q h) hFc ?_
  intro r1 u t H1 locs1 ht hvm hpost hB hz1 hk1 hS
  obtain ⟨hP1, hK1, hD1⟩ := hB
  rw [ht] at hP1
  have hpost2 : r1 = hg_I r := hpost
  subst hpost2
  exact k _ _ _ ⟨hP1, hg_CD g.2.1, hS⟩ hl
theorem z_calllV (B : hg_B p s m args meth c cc own ws nL D cI cA ad o A) {idx n maxL : Nat} {y : MethodName} {bytes : ByteArray} {ret : Option FieldType} {ws2 ws2' : List Cond} {rm : Room} {As st0 : List Value} {w1 : hg_W} {r : Int} {a ci N : Nat} {C : String} {T : u_T} (d : decode cc pc = .ok (.invokevirtual idx, 3)) (hM : hg_Ml l y ws2 rm D cI cA ad o w (.ref (ad a) :: As) w1 r) (hG : GoodIn ws (wsV own idx C y ws2)) (hw : ws2 = Cond.code y bytes maxL ret :: ws2') (hrm : rm.cells = 0 ∧ rm.slots = 0) (hd : y.cls = C ∧ y.cls ≠ "java/lang/invoke/MethodHandle" ∧ y.cls ≠ "java/lang/invoke/VarHandle" ∧ (parseMethodDescriptor y.desc).map (fun d => d.parameters.length) = some n) (hR : rm.frames + 1 ≤ R.frames ∧ 8 + (maxL + 11) + rm.locals ≤ R.locals) (ha : a < hg_N o) (hk : hg_kd o a = ci) (hk6 : ci < 6) (hcl : vwCl[ci]? = some (C, T, N)) (hn : As.length = n) (hst : st0 = As.reverse ++ .ref (ad a) :: st) (hcat : (st.map fun v => v.category).sum ≤ 8) (k : hg_At p l e R s m args below meth c D cI cA ad o A Q nL w1 lv (pc + 3) (.long (hg_J r) :: st)) : hg_At p l e R s m args below meth c D cI cA ad o A Q nL w lv pc st0 := by
  have B0 := B
  obtain ⟨hx, hb, hml, hown, hts, hlk, hA, hK, hE⟩ := B
  intro H locs ls g hl
  have hFc : ∀ q, va_A (hg_CW cI cA ad o w) H.size q → A q := hg_CA g.2.1 (fun q h => hA q (Nat.le_trans g.2.2.1 h))
  have hrecv : ∃ cellB : Cell, H[ad a]? = some cellB ∧ cellB.vm.isStatics = false ∧ s.vm.findClass C = some cellB.cls := by
    have h6 : hg_kd o a = 0 ∨ hg_kd o a = 1 ∨ hg_kd o a = 2 ∨ hg_kd o a = 3 ∨ hg_kd o a = 4 ∨ hg_kd o a = 5 := by omega
    rcases h6 with h6 | h6 | h6 | h6 | h6 | h6
    · exact va_recv (q := (C, T, N)) (ci := 0) (q0 := a) (fs := hg_f0 ad w a) hK g.1 (by rw [← hcl, ← hk, h6]) (by rw [hg_CW_get ha, hg_CE0 h6])
    · exact va_recv (q := (C, T, N)) (ci := 1) (q0 := a) (fs := hg_f1 ad w a) hK g.1 (by rw [← hcl, ← hk, h6]) (by rw [hg_CW_get ha, hg_CE1 h6])
    · exact va_recv (q := (C, T, N)) (ci := 2) (q0 := a) (fs := hg_f2 ad w a) hK g.1 (by rw [← hcl, ← hk, h6]) (by rw [hg_CW_get ha, hg_CE2 h6])
    · exact va_recv (q := (C, T, N)) (ci := 3) (q0 := a) (fs := hg_f3 ad w a) hK g.1 (by rw [← hcl, ← hk, h6]) (by rw [hg_CW_get ha, hg_CE3 h6])
    · exact va_recv (q := (C, T, N)) (ci := 4) (q0 := a) (fs := hg_f4 ad w a) hK g.1 (by rw [← hcl, ← hk, h6]) (by rw [hg_CW_get ha, hg_CE4 h6])
    · exact va_recv (q := (C, T, N)) (ci := 5) (q0 := a) (fs := hg_f5 ad w a) hK g.1 (by rw [← hcl, ← hk, h6]) (by rw [hg_CW_get ha, hg_CE5 h6])
  refine va_calll (va_runV (As := As) (rest := st) ⟨hx, hb, hml, hown, hts⟩ (hM H.size) (cwV n hts hG hw hrm.1 hrm.2 hd hR) ⟨hg_blind, hrecv, fun U hU hW => ⟨rfl, by rw [hU], by rw [hU]; exact g.1, va_K.moved hW.alike hK, g.2.1.weaken (fun _ _ _ _ => trivial), fun ho => hg_ex.call (hE ho) g.2.2 hFc hU hW⟩⟩ rfl hn hl.1 hst (lv_room hcat) d ⟨Nat.zero_le _, Nat.zero_le _⟩) g.2.2 (fun q _ h => hFc q h) hFc ?_
  intro r1 u t H1 locs1 ht hvm hpost hB hz1 hk1 hS
  obtain ⟨hP1, hK1, hD1⟩ := hB
  rw [ht] at hP1
  have hpost2 : r1 = hg_J r := hpost
  subst hpost2
  exact k _ _ _ ⟨hP1, hg_CD g.2.1, hS⟩ hl
theorem z_callvV (B : hg_B p s m args meth c cc own ws nL D cI cA ad o A) {idx n maxL : Nat} {y : MethodName} {bytes : ByteArray} {ret : Option FieldType} {ws2 ws2' : List Cond} {rm : Room} {As st0 : List Value} {w1 : hg_W} {a ci N : Nat} {C : String} {T : u_T} (d : decode cc pc = .ok (.invokevirtual idx, 3)) (hM : hg_Mv l y ws2 rm D cI cA ad o w (.ref (ad a) :: As) w1) (hG : GoodIn ws (wsV own idx C y ws2)) (hw : ws2 = Cond.code y bytes maxL ret :: ws2') (hrm : rm.cells = 0 ∧ rm.slots = 0) (hd : y.cls = C ∧ y.cls ≠ "java/lang/invoke/MethodHandle" ∧ y.cls ≠ "java/lang/invoke/VarHandle" ∧ (parseMethodDescriptor y.desc).map (fun d => d.parameters.length) = some n) (hR : rm.frames + 1 ≤ R.frames ∧ 8 + (maxL + 11) + rm.locals ≤ R.locals) (ha : a < hg_N o) (hk : hg_kd o a = ci) (hk6 : ci < 6) (hcl : vwCl[ci]? = some (C, T, N)) (hn : As.length = n) (hst : st0 = As.reverse ++ .ref (ad a) :: st) (hcat : (st.map fun v => v.category).sum ≤ 8) (k : hg_At p l e R s m args below meth c D cI cA ad o A Q nL w1 lv (pc + 3) st) : hg_At p l e R s m args below meth c D cI cA ad o A Q nL w lv pc st0 := by
  have B0 := B
  obtain ⟨hx, hb, hml, hown, hts, hlk, hA, hK, hE⟩ := B
  intro H locs ls g hl
  have hFc : ∀ q, va_A (hg_CW cI cA ad o w) H.size q → A q := hg_CA g.2.1 (fun q h => hA q (Nat.le_trans g.2.2.1 h))
  have hrecv : ∃ cellB : Cell, H[ad a]? = some cellB ∧ cellB.vm.isStatics = false ∧ s.vm.findClass C = some cellB.cls := by
    have h6 : hg_kd o a = 0 ∨ hg_kd o a = 1 ∨ hg_kd o a = 2 ∨ hg_kd o a = 3 ∨ hg_kd o a = 4 ∨ hg_kd o a = 5 := by omega
    rcases h6 with h6 | h6 | h6 | h6 | h6 | h6
    · exact va_recv (q := (C, T, N)) (ci := 0) (q0 := a) (fs := hg_f0 ad w a) hK g.1 (by rw [← hcl, ← hk, h6]) (by rw [hg_CW_get ha, hg_CE0 h6])
    · exact va_recv (q := (C, T, N)) (ci := 1) (q0 := a) (fs := hg_f1 ad w a) hK g.1 (by rw [← hcl, ← hk, h6]) (by rw [hg_CW_get ha, hg_CE1 h6])
    · exact va_recv (q := (C, T, N)) (ci := 2) (q0 := a) (fs := hg_f2 ad w a) hK g.1 (by rw [← hcl, ← hk, h6]) (by rw [hg_CW_get ha, hg_CE2 h6])
    · exact va_recv (q := (C, T, N)) (ci := 3) (q0 := a) (fs := hg_f3 ad w a) hK g.1 (by rw [← hcl, ← hk, h6]) (by rw [hg_CW_get ha, hg_CE3 h6])
    · exact va_recv (q := (C, T, N)) (ci := 4) (q0 := a) (fs := hg_f4 ad w a) hK g.1 (by rw [← hcl, ← hk, h6]) (by rw [hg_CW_get ha, hg_CE4 h6])
    · exact va_recv (q := (C, T, N)) (ci := 5) (q0 := a) (fs := hg_f5 ad w a) hK g.1 (by rw [← hcl, ← hk, h6]) (by rw [hg_CW_get ha, hg_CE5 h6])
  refine va_callv (va_runV (As := As) (rest := st) ⟨hx, hb, hml, hown, hts⟩ (hM H.size) (cwV n hts hG hw hrm.1 hrm.2 hd hR) ⟨hg_blind, hrecv, fun U hU hW => ⟨rfl, by rw [hU], by rw [hU]; exact g.1, va_K.moved hW.alike hK, g.2.1.weaken (fun _ _ _ _ => trivial), fun ho => hg_ex.call (hE ho) g.2.2 hFc hU hW⟩⟩ rfl hn hl.1 hst (lv_room hcat) d ⟨Nat.zero_le _, Nat.zero_le _⟩) g.2.2 (fun q _ h => hFc q h) hFc ?_
  intro u t H1 locs1 ht hvm hpost hB hz1 hk1 hS
  obtain ⟨hP1, hK1, hD1⟩ := hB
  rw [ht] at hP1
  exact k _ _ _ ⟨hP1, hg_CD g.2.1, hS⟩ hl
theorem z_callrV (B : hg_B p s m args meth c cc own ws nL D cI cA ad o A) {idx n maxL : Nat} {y : MethodName} {bytes : ByteArray} {ret : Option FieldType} {ws2 ws2' : List Cond} {rm : Room} {As st0 : List Value} {w1 : hg_W} {r : Int} {a ci N : Nat} {C : String} {T : u_T} (d : decode cc pc = .ok (.invokevirtual idx, 3)) (hM : hg_Mr l y ws2 rm D cI cA ad o w (.ref (ad a) :: As) w1 r) (hG : GoodIn ws (wsV own idx C y ws2)) (hw : ws2 = Cond.code y bytes maxL ret :: ws2') (hrm : rm.cells = 0 ∧ rm.slots = 0) (hd : y.cls = C ∧ y.cls ≠ "java/lang/invoke/MethodHandle" ∧ y.cls ≠ "java/lang/invoke/VarHandle" ∧ (parseMethodDescriptor y.desc).map (fun d => d.parameters.length) = some n) (hR : rm.frames + 1 ≤ R.frames ∧ 8 + (maxL + 11) + rm.locals ≤ R.locals) (ha : a < hg_N o) (hk : hg_kd o a = ci) (hk6 : ci < 6) (hcl : vwCl[ci]? = some (C, T, N)) (hn : As.length = n) (hst : st0 = As.reverse ++ .ref (ad a) :: st) (hcat : (st.map fun v => v.category).sum ≤ 8) (k : hg_At p l e R s m args below meth c D cI cA ad o A Q nL w1 lv (pc + 3) (.ref (ad (1000 + r.toNat)) :: st)) : hg_At p l e R s m args below meth c D cI cA ad o A Q nL w lv pc st0 := by
  have B0 := B
  obtain ⟨hx, hb, hml, hown, hts, hlk, hA, hK, hE⟩ := B
  intro H locs ls g hl
  have hFc : ∀ q, va_A (hg_CW cI cA ad o w) H.size q → A q := hg_CA g.2.1 (fun q h => hA q (Nat.le_trans g.2.2.1 h))
  have hrecv : ∃ cellB : Cell, H[ad a]? = some cellB ∧ cellB.vm.isStatics = false ∧ s.vm.findClass C = some cellB.cls := by
    have h6 : hg_kd o a = 0 ∨ hg_kd o a = 1 ∨ hg_kd o a = 2 ∨ hg_kd o a = 3 ∨ hg_kd o a = 4 ∨ hg_kd o a = 5 := by omega
    rcases h6 with h6 | h6 | h6 | h6 | h6 | h6
    · exact va_recv (q := (C, T, N)) (ci := 0) (q0 := a) (fs := hg_f0 ad w a) hK g.1 (by rw [← hcl, ← hk, h6]) (by rw [hg_CW_get ha, hg_CE0 h6])
    · exact va_recv (q := (C, T, N)) (ci := 1) (q0 := a) (fs := hg_f1 ad w a) hK g.1 (by rw [← hcl, ← hk, h6]) (by rw [hg_CW_get ha, hg_CE1 h6])
    · exact va_recv (q := (C, T, N)) (ci := 2) (q0 := a) (fs := hg_f2 ad w a) hK g.1 (by rw [← hcl, ← hk, h6]) (by rw [hg_CW_get ha, hg_CE2 h6])
    · exact va_recv (q := (C, T, N)) (ci := 3) (q0 := a) (fs := hg_f3 ad w a) hK g.1 (by rw [← hcl, ← hk, h6]) (by rw [hg_CW_get ha, hg_CE3 h6])
    · exact va_recv (q := (C, T, N)) (ci := 4) (q0 := a) (fs := hg_f4 ad w a) hK g.1 (by rw [← hcl, ← hk, h6]) (by rw [hg_CW_get ha, hg_CE4 h6])
    · exact va_recv (q := (C, T, N)) (ci := 5) (q0 := a) (fs := hg_f5 ad w a) hK g.1 (by rw [← hcl, ← hk, h6]) (by rw [hg_CW_get ha, hg_CE5 h6])
  refine va_callr (va_runV (As := As) (rest := st) ⟨hx, hb, hml, hown, hts⟩ (hM H.size) (cwV n hts hG hw hrm.1 hrm.2 hd hR) ⟨hg_blind, hrecv, fun U hU hW => ⟨rfl, by rw [hU], by rw [hU]; exact g.1, va_K.moved hW.alike hK, g.2.1.weaken (fun _ _ _ _ => trivial), fun ho => hg_ex.call (hE ho) g.2.2 hFc hU hW⟩⟩ rfl hn hl.1 hst (lv_room hcat) d ⟨Nat.zero_le _, Nat.zero_le _⟩) g.2.2 (fun q _ h => hFc q h) hFc ?_
  intro u a1 t H1 locs1 ht hvm hpost hB hz1 hk1 hS
  obtain ⟨ha1, hP1, hK1, hD1⟩ := hB
  rw [ht] at hP1
  subst ha1
  exact k _ _ _ ⟨hP1, hg_CD g.2.1, hS⟩ hl
theorem z_calliS (B : hg_B p s m args meth c cc own ws nL D cI cA ad o A) {idx n maxL : Nat} {y : MethodName} {bytes : ByteArray} {ret : Option FieldType} {ws2 ws2' : List Cond} {rm : Room} {As st0 : List Value} {w1 : hg_W} {r : Int} (d : decode cc pc = .ok (.invokestatic idx, 3)) (hM : hg_Mi l y ws2 rm D cI cA ad o w As w1 r) (hG : GoodIn ws (va_wsS own idx y ws2)) (hw : ws2 = Cond.code y bytes maxL ret :: ws2') (hrm : rm.cells = 0 ∧ rm.slots = 0) (hd : y.cls ≠ "java/lang/invoke/MethodHandle" ∧ y.cls ≠ "java/lang/invoke/VarHandle" ∧ (parseMethodDescriptor y.desc).map (fun d => d.parameters.length) = some n) (hR : rm.frames + 1 ≤ R.frames ∧ 8 + (maxL + 11) + rm.locals ≤ R.locals) (hn : As.length = n) (hst : st0 = As.reverse ++ st) (hcat : (st.map fun v => v.category).sum ≤ 8) (k : hg_At p l e R s m args below meth c D cI cA ad o A Q nL w1 lv (pc + 3) (.int (hg_I r) :: st)) : hg_At p l e R s m args below meth c D cI cA ad o A Q nL w lv pc st0 := by
  have B0 := B
  obtain ⟨hx, hb, hml, hown, hts, hlk, hA, hK, hE⟩ := B
  intro H locs ls g hl
  have hFc : ∀ q, va_A (hg_CW cI cA ad o w) H.size q → A q := hg_CA g.2.1 (fun q h => hA q (Nat.le_trans g.2.2.1 h))
  refine va_calli (va_runS (As := As) (rest := st) ⟨hx, hb, hml, hown, hts⟩ (hM H.size) (va_cwS n hts hG hw hrm.1 hrm.2 hd hR) ⟨hg_blind, fun U hU hW => ⟨rfl, by rw [hU], by rw [hU]; exact g.1, va_K.moved hW.alike hK, g.2.1.weaken (fun _ _ _ _ => trivial), fun ho => hg_ex.call (hE ho) g.2.2 hFc hU hW⟩⟩ rfl hn hl.1 hst (lv_room hcat) d ⟨Nat.zero_le _, Nat.zero_le _⟩) g.2.2 (fun q _ h => hFc q h) hFc ?_
  intro r1 u t H1 locs1 ht hvm hpost hB hz1 hk1 hS
  obtain ⟨hP1, hK1, hD1⟩ := hB
  rw [ht] at hP1
  have hpost2 : r1 = hg_I r := hpost
  subst hpost2
  exact k _ _ _ ⟨hP1, hg_CD g.2.1, hS⟩ hl
theorem z_calllS (B : hg_B p s m args meth c cc own ws nL D cI cA ad o A) {idx n maxL : Nat} {y : MethodName} {bytes : ByteArray} {ret : Option FieldType} {ws2 ws2' : List Cond} {rm : Room} {As st0 : List Value} {w1 : hg_W} {r : Int} (d : decode cc pc = .ok (.invokestatic idx, 3)) (hM : hg_Ml l y ws2 rm D cI cA ad o w As w1 r) (hG : GoodIn ws (va_wsS own idx y ws2)) (hw : ws2 = Cond.code y bytes maxL ret :: ws2') (hrm : rm.cells = 0 ∧ rm.slots = 0) (hd : y.cls ≠ "java/lang/invoke/MethodHandle" ∧ y.cls ≠ "java/lang/invoke/VarHandle" ∧ (parseMethodDescriptor y.desc).map (fun d => d.parameters.length) = some n) (hR : rm.frames + 1 ≤ R.frames ∧ 8 + (maxL + 11) + rm.locals ≤ R.locals) (hn : As.length = n) (hst : st0 = As.reverse ++ st) (hcat : (st.map fun v => v.category).sum ≤ 8) (k : hg_At p l e R s m args below meth c D cI cA ad o A Q nL w1 lv (pc + 3) (.long (hg_J r) :: st)) : hg_At p l e R s m args below meth c D cI cA ad o A Q nL w lv pc st0 := by
  have B0 := B
  obtain ⟨hx, hb, hml, hown, hts, hlk, hA, hK, hE⟩ := B
  intro H locs ls g hl
  have hFc : ∀ q, va_A (hg_CW cI cA ad o w) H.size q → A q := hg_CA g.2.1 (fun q h => hA q (Nat.le_trans g.2.2.1 h))
  refine va_calll (va_runS (As := As) (rest := st) ⟨hx, hb, hml, hown, hts⟩ (hM H.size) (va_cwS n hts hG hw hrm.1 hrm.2 hd hR) ⟨hg_blind, fun U hU hW => ⟨rfl, by rw [hU], by rw [hU]; exact g.1, va_K.moved hW.alike hK, g.2.1.weaken (fun _ _ _ _ => trivial), fun ho => hg_ex.call (hE ho) g.2.2 hFc hU hW⟩⟩ rfl hn hl.1 hst (lv_room hcat) d ⟨Nat.zero_le _, Nat.zero_le _⟩) g.2.2 (fun q _ h => hFc q h) hFc ?_
  intro r1 u t H1 locs1 ht hvm hpost hB hz1 hk1 hS
  obtain ⟨hP1, hK1, hD1⟩ := hB
  rw [ht] at hP1
  have hpost2 : r1 = hg_J r := hpost
  subst hpost2
  exact k _ _ _ ⟨hP1, hg_CD g.2.1, hS⟩ hl
theorem z_callvS (B : hg_B p s m args meth c cc own ws nL D cI cA ad o A) {idx n maxL : Nat} {y : MethodName} {bytes : ByteArray} {ret : Option FieldType} {ws2 ws2' : List Cond} {rm : Room} {As st0 : List Value} {w1 : hg_W} (d : decode cc pc = .ok (.invokestatic idx, 3)) (hM : hg_Mv l y ws2 rm D cI cA ad o w As w1) (hG : GoodIn ws (va_wsS own idx y ws2)) (hw : ws2 = Cond.code y bytes maxL ret :: ws2') (hrm : rm.cells = 0 ∧ rm.slots = 0) (hd : y.cls ≠ "java/lang/invoke/MethodHandle" ∧ y.cls ≠ "java/lang/invoke/VarHandle" ∧ (parseMethodDescriptor y.desc).map (fun d => d.parameters.length) = some n) (hR : rm.frames + 1 ≤ R.frames ∧ 8 + (maxL + 11) + rm.locals ≤ R.locals) (hn : As.length = n) (hst : st0 = As.reverse ++ st) (hcat : (st.map fun v => v.category).sum ≤ 8) (k : hg_At p l e R s m args below meth c D cI cA ad o A Q nL w1 lv (pc + 3) st) : hg_At p l e R s m args below meth c D cI cA ad o A Q nL w lv pc st0 := by
  have B0 := B
  obtain ⟨hx, hb, hml, hown, hts, hlk, hA, hK, hE⟩ := B
  intro H locs ls g hl
  have hFc : ∀ q, va_A (hg_CW cI cA ad o w) H.size q → A q := hg_CA g.2.1 (fun q h => hA q (Nat.le_trans g.2.2.1 h))
  refine va_callv (va_runS (As := As) (rest := st) ⟨hx, hb, hml, hown, hts⟩ (hM H.size) (va_cwS n hts hG hw hrm.1 hrm.2 hd hR) ⟨hg_blind, fun U hU hW => ⟨rfl, by rw [hU], by rw [hU]; exact g.1, va_K.moved hW.alike hK, g.2.1.weaken (fun _ _ _ _ => trivial), fun ho => hg_ex.call (hE ho) g.2.2 hFc hU hW⟩⟩ rfl hn hl.1 hst (lv_room hcat) d ⟨Nat.zero_le _, Nat.zero_le _⟩) g.2.2 (fun q _ h => hFc q h) hFc ?_
  intro u t H1 locs1 ht hvm hpost hB hz1 hk1 hS
  obtain ⟨hP1, hK1, hD1⟩ := hB
  rw [ht] at hP1
  exact k _ _ _ ⟨hP1, hg_CD g.2.1, hS⟩ hl
theorem z_callrS (B : hg_B p s m args meth c cc own ws nL D cI cA ad o A) {idx n maxL : Nat} {y : MethodName} {bytes : ByteArray} {ret : Option FieldType} {ws2 ws2' : List Cond} {rm : Room} {As st0 : List Value} {w1 : hg_W} {r : Int} (d : decode cc pc = .ok (.invokestatic idx, 3)) (hM : hg_Mr l y ws2 rm D cI cA ad o w As w1 r) (hG : GoodIn ws (va_wsS own idx y ws2)) (hw : ws2 = Cond.code y bytes maxL ret :: ws2') (hrm : rm.cells = 0 ∧ rm.slots = 0) (hd : y.cls ≠ "java/lang/invoke/MethodHandle" ∧ y.cls ≠ "java/lang/invoke/VarHandle" ∧ (parseMethodDescriptor y.desc).map (fun d => d.parameters.length) = some n) (hR : rm.frames + 1 ≤ R.frames ∧ 8 + (maxL + 11) + rm.locals ≤ R.locals) (hn : As.length = n) (hst : st0 = As.reverse ++ st) (hcat : (st.map fun v => v.category).sum ≤ 8) (k : hg_At p l e R s m args below meth c D cI cA ad o A Q nL w1 lv (pc + 3) (.ref (ad (1000 + r.toNat)) :: st)) : hg_At p l e R s m args below meth c D cI cA ad o A Q nL w lv pc st0 := by
  have B0 := B
  obtain ⟨hx, hb, hml, hown, hts, hlk, hA, hK, hE⟩ := B
  intro H locs ls g hl
  have hFc : ∀ q, va_A (hg_CW cI cA ad o w) H.size q → A q := hg_CA g.2.1 (fun q h => hA q (Nat.le_trans g.2.2.1 h))
  refine va_callr (va_runS (As := As) (rest := st) ⟨hx, hb, hml, hown, hts⟩ (hM H.size) (va_cwS n hts hG hw hrm.1 hrm.2 hd hR) ⟨hg_blind, fun U hU hW => ⟨rfl, by rw [hU], by rw [hU]; exact g.1, va_K.moved hW.alike hK, g.2.1.weaken (fun _ _ _ _ => trivial), fun ho => hg_ex.call (hE ho) g.2.2 hFc hU hW⟩⟩ rfl hn hl.1 hst (lv_room hcat) d ⟨Nat.zero_le _, Nat.zero_le _⟩) g.2.2 (fun q _ h => hFc q h) hFc ?_
  intro u a1 t H1 locs1 ht hvm hpost hB hz1 hk1 hS
  obtain ⟨ha1, hP1, hK1, hD1⟩ := hB
  rw [ht] at hP1
  subst ha1
  exact k _ _ _ ⟨hP1, hg_CD g.2.1, hS⟩ hl
theorem z_calliSN (B : hg_B p s m args meth c cc own ws nL D cI cA ad o A) (ho : o = 0) {idx n maxL : Nat} {y : MethodName} {host : String} {bytes : ByteArray} {ret : Option FieldType} {ws2 ws2' : List Cond} {rm : Room} {As st0 : List Value} {w1 : hg_W} {r : Int} (d : decode cc pc = .ok (.invokestatic idx, 3)) (hM : hg_Mi l y ws2 rm D cI cA ad o w As w1 r) (hG : GoodIn ws ws2) (hw : ws2 = Cond.code y bytes maxL ret :: ws2') (hrm : rm.cells = 0 ∧ rm.slots = 0) (hd : y.cls ≠ "java/lang/invoke/MethodHandle" ∧ y.cls ≠ "java/lang/invoke/VarHandle" ∧ (parseMethodDescriptor y.desc).map (fun d => d.parameters.length) = some n) (hR : rm.frames + 1 ≤ R.frames ∧ 8 + (maxL + 11) + rm.locals ≤ R.locals) (hnest : hg_nest = .methodLinkNest own idx y host) (hstat : Cond.static y ∈ ws) (hini : Cond.initialized y.cls ∈ ws) (hn : As.length = n) (hst : st0 = As.reverse ++ st) (hcat : (st.map fun v => v.category).sum ≤ 8) (k : hg_At p l e R s m args below meth c D cI cA ad o A Q nL w1 lv (pc + 3) (.int (hg_I r) :: st)) : hg_At p l e R s m args below meth c D cI cA ad o A Q nL w lv pc st0 := by
  obtain ⟨hx, hb, hml, hown, hts, hlk, hA, hK, hE⟩ := B
  intro H locs ls g hl
  have hFc : ∀ q, va_A (hg_CW cI cA ad o w) H.size q → A q := hg_CA g.2.1 (fun q h => hA q (Nat.le_trans g.2.2.1 h))
  have hlink : va_Nw (.methodLinkNest own idx y host) s := by rw [← hnest]; exact (hE ho).1
  refine va_calli (va_runSN (As := As) (rest := st) ⟨hx, hb, hml, hown, hts⟩ (hM H.size) ⟨va_cnB n hts hG hw hrm.1 hrm.2 hlink (hts _ hini) hd hR, hts _ hstat, trivial⟩ ⟨hg_blind, fun U hU hW => ⟨rfl, by rw [hU], by rw [hU]; exact g.1, va_K.moved hW.alike hK, g.2.1.weaken (fun _ _ _ _ => trivial), fun ho => hg_ex.call (hE ho) g.2.2 hFc hU hW⟩⟩ rfl hn hl.1 hst (lv_room hcat) d ⟨Nat.zero_le _, Nat.zero_le _⟩) g.2.2 (fun q _ h => hFc q h) hFc ?_
  intro r1 u t H1 locs1 ht hvm hpost hB hz1 hk1 hS
  obtain ⟨hP1, hK1, hD1⟩ := hB
  rw [ht] at hP1
  have hpost2 : r1 = hg_I r := hpost
  subst hpost2
  exact k _ _ _ ⟨hP1, hg_CD g.2.1, hS⟩ hl
theorem z_ldcS (B : hg_B p s m args meth c cc own ws nL D cI cA ad o A) {idx : Nat} (d : decode cc pc = .ok (.ldc idx, 2)) (i : Nat) (hi : i < 13) (hix : hg_six.getD i 0 = idx) (ho : o = 0) (hown2 : own = RX2) (k : hg_At p l e R s m args below meth c D cI cA ad o A Q nL w lv (pc + 2) (.ref (ad (1000 + (i : Int).toNat)) :: st)) : hg_At p l e R s m args below meth c D cI cA ad o A Q nL w lv pc st := by
  obtain ⟨hx, hb, hml, hown, hts, hlk, hA, hK, hE⟩ := B
  intro H locs ls g hl
  subst hix
  subst hown2
  exact va_ldcS hx hb hown ((hE ho).2.1 i hi) d (k _ _ _ g hl)
theorem z_iret (B : hg_B p s m args meth c cc own ws nL D cI cA ad o A) (hr : meth.sig.returnType = some .int) {w1 : hg_W} {x r : Int} (d : decode cc pc = .ok (.ireturn, 1)) (h : some (w, wr x) = some (w1, r)) : hg_At p l e R s m args below meth c D cI cA ad o A (MQ below (hg_Qi D cI cA ad o A w1 r) args s 0 0 A) nL w lv pc [.int (hg_I x)] := by
  obtain ⟨hx, hb, hml, hown, hts, hlk, hA, hK, hE⟩ := B
  intro H locs ls g hl
  cases h
  exact W.iret hx hb hr (fun t ht hW => ⟨⟨_, (), rfl, (hg_I_wr x).symm, by rw [ht]; exact g.1, va_K.moved hW.alike hK, g.2.1⟩, g.2.2.F ht⟩) g.2.2.2.2 d
theorem z_bret (B : hg_B p s m args meth c cc own ws nL D cI cA ad o A) (hr : meth.sig.returnType = some .boolean) {w1 : hg_W} {x r : Int} (d : decode cc pc = .ok (.ireturn, 1)) (h : (if wr x = 0 ∨ wr x = 1 then some (w, wr x) else none) = some (w1, r)) : hg_At p l e R s m args below meth c D cI cA ad o A (MQ below (hg_Qi D cI cA ad o A w1 r) args s 0 0 A) nL w lv pc [.int (hg_I x)] := by
  obtain ⟨hx, hb, hml, hown, hts, hlk, hA, hK, hE⟩ := B
  intro H locs ls g hl
  by_cases q : wr x = 0 ∨ wr x = 1
  · rw [if_pos q] at h
    cases h
    have hn : narrow .boolean (.int (hg_I x)) = .int (hg_I x) := by
      rcases q with q | q
      · rw [show hg_I x = hg_I 0 from hg_I_inj.mpr q]; rfl
      · rw [show hg_I x = hg_I 1 from hg_I_inj.mpr q]; rfl
    exact W.zret hx hb hr hn (fun t ht hW => ⟨⟨_, (), rfl, (hg_I_wr x).symm, by rw [ht]; exact g.1, va_K.moved hW.alike hK, g.2.1⟩, g.2.2.F ht⟩) g.2.2.2.2 d
  · rw [if_neg q] at h
    cases h
theorem z_lret (B : hg_B p s m args meth c cc own ws nL D cI cA ad o A) (hr : meth.sig.returnType = some .long) {w1 : hg_W} {x r : Int} (d : decode cc pc = .ok (.lreturn, 1)) (h : some (w, wl x) = some (w1, r)) : hg_At p l e R s m args below meth c D cI cA ad o A (MQ below (hg_Ql D cI cA ad o A w1 r) args s 0 0 A) nL w lv pc [.long (hg_J x)] := by
  obtain ⟨hx, hb, hml, hown, hts, hlk, hA, hK, hE⟩ := B
  intro H locs ls g hl
  cases h
  exact W.lret hx hb hr (fun t ht hW => ⟨⟨_, (), rfl, (hg_J_toInt (hg_J x)).symm, by rw [ht]; exact g.1, va_K.moved hW.alike hK, g.2.1⟩, g.2.2.F ht⟩) g.2.2.2.2 d
theorem z_aret (B : hg_B p s m args meth c cc own ws nL D cI cA ad o A) (hr : meth.sig.returnType = some (.object "java/lang/String")) {w1 : hg_W} {r r2 : Int} (d : decode cc pc = .ok (.areturn, 1)) (h : some (w, r2) = some (w1, r)) : hg_At p l e R s m args below meth c D cI cA ad o A (MQ below (hg_Qr D cI cA ad o A w1 r) args s 0 0 A) nL w lv pc [.ref (ad (1000 + r2.toNat))] := by
  obtain ⟨hx, hb, hml, hown, hts, hlk, hA, hK, hE⟩ := B
  intro H locs ls g hl
  cases h
  exact W.aret hx hb hr (Or.inl ⟨_, rfl⟩) (Or.inr ⟨_, rfl⟩) (fun t ht hW => ⟨⟨(), _, rfl, trivial, rfl, by rw [ht]; exact g.1, va_K.moved hW.alike hK, g.2.1⟩, g.2.2.F ht⟩) g.2.2.2.2 d
theorem z_vret (B : hg_B p s m args meth c cc own ws nL D cI cA ad o A) (hr : meth.sig.returnType = none) {w1 : hg_W} {r : Int} (d : decode cc pc = .ok (.return_, 1)) (h : some (w, (0 : Int)) = some (w1, r)) : hg_At p l e R s m args below meth c D cI cA ad o A (MQ below (hg_Qv D cI cA ad o A w1) args s 0 0 A) nL w lv pc [] := by
  obtain ⟨hx, hb, hml, hown, hts, hlk, hA, hK, hE⟩ := B
  intro H locs ls g hl
  cases h
  exact W.vret hx hb hr (fun t ht hW => ⟨⟨(), rfl, trivial, by rw [ht]; exact g.1, va_K.moved hW.alike hK, g.2.1⟩, g.2.2.F ht⟩) g.2.2.2.2 d
def hg_sl (i : Int) : Option Int := if 0 ≤ i ∧ i < 13 then some (hg_sle.getD i.toNat 0 : Int) else none
def hg_sc (i k : Int) : Option Int := if 0 ≤ i ∧ i < 13 ∧ 0 ≤ wr k ∧ wr k < (hg_sle.getD i.toNat 0 : Int) then some (((hg_sby.getD i.toNat []).getD (wr k).toNat 0).toInt) else none
end HGZ
theorem z_meti {l : Launch} {y : MethodName} {rm : Room} {D : va_G} {cI cA : ClassId} {ad : Nat → Nat} {o : Nat} {w w1 : hg_W} {As : List Value} {r : Int} (cc : ByteArray) (maxL : Nat) (ret : Option FieldType) (hp : plainName y.cls = true) (hlen : (lg_sl As).length ≤ maxL)
    (k : ∀ (p : Program) (e : Env) (s : State) (m : MethodId) (args : Array Value) (below : List Frame) (meth : Method) (c : Code) (A : Nat → Prop), hg_B p s m args meth c cc y.cls wsL_law maxL D cI cA ad o A → meth.sig.returnType = ret → hg_At p l e rm s m args below meth c D cI cA ad o A (MQ below (hg_Qi D cI cA ad o A w1 r) args s 0 0 A) maxL w (lv_args 0 As) 0 []) : hg_Mi l y (Cond.code y cc maxL ret :: wsL_law) rm D cI cA ad o w As w1 r := by
  intro sz
  refine Met.ofW (cc := cc) (maxL := maxL) (ret := ret) hp rfl ?_
  intro p e s m args below meth c s₁ B hml hv
  obtain ⟨rfl, hsz, hP, hK, hD0, hE⟩ := hv
  subst hsz
  have hD := hD0.self (sz := s.heap.size)
  have hB : hg_B p s m As.toArray meth c cc y.cls wsL_law maxL D cI cA ad o (va_A (hg_CW cI cA ad o w) s.heap.size) := ⟨B.exec, B.bytes, hml, findClass_of_methodNamed B.named, fun w hw => atoms_spec (ws := Cond.code y cc maxL ret :: wsL_law) B.pre w (List.mem_cons_of_mem _ hw), B.notSynchronized, fun q h => Or.inr h, hK, hE⟩
  have hl := lv_entry As (n := maxL) hlen
  rw [lg_entry_eq]
  exact k p e s m As.toArray below meth c _ hB B.returns s.heap [] _ ⟨hP, hD, va_S.rf⟩ hl
theorem z_metl {l : Launch} {y : MethodName} {rm : Room} {D : va_G} {cI cA : ClassId} {ad : Nat → Nat} {o : Nat} {w w1 : hg_W} {As : List Value} {r : Int} (cc : ByteArray) (maxL : Nat) (ret : Option FieldType) (hp : plainName y.cls = true) (hlen : (lg_sl As).length ≤ maxL)
    (k : ∀ (p : Program) (e : Env) (s : State) (m : MethodId) (args : Array Value) (below : List Frame) (meth : Method) (c : Code) (A : Nat → Prop), hg_B p s m args meth c cc y.cls wsL_law maxL D cI cA ad o A → meth.sig.returnType = ret → hg_At p l e rm s m args below meth c D cI cA ad o A (MQ below (hg_Ql D cI cA ad o A w1 r) args s 0 0 A) maxL w (lv_args 0 As) 0 []) : hg_Ml l y (Cond.code y cc maxL ret :: wsL_law) rm D cI cA ad o w As w1 r := by
  intro sz
  refine Met.ofW (cc := cc) (maxL := maxL) (ret := ret) hp rfl ?_
  intro p e s m args below meth c s₁ B hml hv
  obtain ⟨rfl, hsz, hP, hK, hD0, hE⟩ := hv
  subst hsz
  have hD := hD0.self (sz := s.heap.size)
  have hB : hg_B p s m As.toArray meth c cc y.cls wsL_law maxL D cI cA ad o (va_A (hg_CW cI cA ad o w) s.heap.size) := ⟨B.exec, B.bytes, hml, findClass_of_methodNamed B.named, fun w hw => atoms_spec (ws := Cond.code y cc maxL ret :: wsL_law) B.pre w (List.mem_cons_of_mem _ hw), B.notSynchronized, fun q h => Or.inr h, hK, hE⟩
  have hl := lv_entry As (n := maxL) hlen
  rw [lg_entry_eq]
  exact k p e s m As.toArray below meth c _ hB B.returns s.heap [] _ ⟨hP, hD, va_S.rf⟩ hl
theorem z_metv {l : Launch} {y : MethodName} {rm : Room} {D : va_G} {cI cA : ClassId} {ad : Nat → Nat} {o : Nat} {w w1 : hg_W} {As : List Value} (cc : ByteArray) (maxL : Nat) (ret : Option FieldType) (hp : plainName y.cls = true) (hlen : (lg_sl As).length ≤ maxL)
    (k : ∀ (p : Program) (e : Env) (s : State) (m : MethodId) (args : Array Value) (below : List Frame) (meth : Method) (c : Code) (A : Nat → Prop), hg_B p s m args meth c cc y.cls wsL_law maxL D cI cA ad o A → meth.sig.returnType = ret → hg_At p l e rm s m args below meth c D cI cA ad o A (MQ below (hg_Qv D cI cA ad o A w1) args s 0 0 A) maxL w (lv_args 0 As) 0 []) : hg_Mv l y (Cond.code y cc maxL ret :: wsL_law) rm D cI cA ad o w As w1 := by
  intro sz
  refine Met.ofW (cc := cc) (maxL := maxL) (ret := ret) hp rfl ?_
  intro p e s m args below meth c s₁ B hml hv
  obtain ⟨rfl, hsz, hP, hK, hD0, hE⟩ := hv
  subst hsz
  have hD := hD0.self (sz := s.heap.size)
  have hB : hg_B p s m As.toArray meth c cc y.cls wsL_law maxL D cI cA ad o (va_A (hg_CW cI cA ad o w) s.heap.size) := ⟨B.exec, B.bytes, hml, findClass_of_methodNamed B.named, fun w hw => atoms_spec (ws := Cond.code y cc maxL ret :: wsL_law) B.pre w (List.mem_cons_of_mem _ hw), B.notSynchronized, fun q h => Or.inr h, hK, hE⟩
  have hl := lv_entry As (n := maxL) hlen
  rw [lg_entry_eq]
  exact k p e s m As.toArray below meth c _ hB B.returns s.heap [] _ ⟨hP, hD, va_S.rf⟩ hl
theorem z_metr {l : Launch} {y : MethodName} {rm : Room} {D : va_G} {cI cA : ClassId} {ad : Nat → Nat} {o : Nat} {w w1 : hg_W} {As : List Value} {r : Int} (cc : ByteArray) (maxL : Nat) (ret : Option FieldType) (hp : plainName y.cls = true) (hlen : (lg_sl As).length ≤ maxL)
    (k : ∀ (p : Program) (e : Env) (s : State) (m : MethodId) (args : Array Value) (below : List Frame) (meth : Method) (c : Code) (A : Nat → Prop), hg_B p s m args meth c cc y.cls wsL_law maxL D cI cA ad o A → meth.sig.returnType = ret → hg_At p l e rm s m args below meth c D cI cA ad o A (MQ below (hg_Qr D cI cA ad o A w1 r) args s 0 0 A) maxL w (lv_args 0 As) 0 []) : hg_Mr l y (Cond.code y cc maxL ret :: wsL_law) rm D cI cA ad o w As w1 r := by
  intro sz
  refine Met.ofW (cc := cc) (maxL := maxL) (ret := ret) hp rfl ?_
  intro p e s m args below meth c s₁ B hml hv
  obtain ⟨rfl, hsz, hP, hK, hD0, hE⟩ := hv
  subst hsz
  have hD := hD0.self (sz := s.heap.size)
  have hB : hg_B p s m As.toArray meth c cc y.cls wsL_law maxL D cI cA ad o (va_A (hg_CW cI cA ad o w) s.heap.size) := ⟨B.exec, B.bytes, hml, findClass_of_methodNamed B.named, fun w hw => atoms_spec (ws := Cond.code y cc maxL ret :: wsL_law) B.pre w (List.mem_cons_of_mem _ hw), B.notSynchronized, fun q h => Or.inr h, hK, hE⟩
  have hl := lv_entry As (n := maxL) hlen
  rw [lg_entry_eq]
  exact k p e s m As.toArray below meth c _ hB B.returns s.heap [] _ ⟨hP, hD, va_S.rf⟩ hl
