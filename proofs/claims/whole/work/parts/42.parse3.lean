/-! ===== text: one level of binding on both sides ===== -/
def hy_X (n t b p : Nat) (w v : hg_W) : Prop := hy_B n w v ∧ w 17 8 = -1 ∧ (v 0 11 = (t : Int) ∧ t < 6) ∧ (w 17 4 = (p : Int) ∧ v 0 20 = (p : Int) ∧ w 17 5 = (b : Int) ∧ v 0 21 = (b : Int)) ∧ (b ≤ p ∧ p ≤ n ∧ (w 17 6 ≠ -20 → b < p)) ∧ hy_tk (w 17 6) (w 17 7) (v 0 22) (v 0 23)
def hy_PM (t : Nat) (v v' : hg_W) : Prop := (∀ c, c ≠ 0 → c ≠ 6 → c ≠ 15 → v' c = v c) ∧ (∀ k, (k < 20 ∨ 28 < k) → v' 0 k = v 0 k) ∧ ∀ j, (j < 200 * t ∨ 200 * t + 200 ≤ j) → v' 6 j = v 6 j
theorem hy_PM.rf {t : Nat} {v : hg_W} : hy_PM t v v := ⟨fun _ _ _ _ => rfl, fun _ _ => rfl, fun _ _ => rfl⟩
theorem hy_PM.tr {t : Nat} {a b c : hg_W} (h1 : hy_PM t a b) (h2 : hy_PM t b c) : hy_PM t a c := ⟨fun x p q r => (h2.1 x p q r).trans (h1.1 x p q r), fun k p => (h2.2.1 k p).trans (h1.2.1 k p), fun j h => (h2.2.2 j h).trans (h1.2.2 j h)⟩
theorem hy_PS.pm {t : Nat} {v v' : hg_W} (h : hy_PS t v v') : hy_PM t v v' := ⟨h.1, fun k hk => h.2.1 k (by omega) (by omega) (by omega), h.2.2⟩
theorem hy_LM.pm {t : Nat} {v v' : hg_W} (h : hy_LM v v') : hy_PM t v v' := ⟨fun c h0 _ _ => h.1 c h0, fun k hk => h.2 k (by omega) (by omega) (by omega) (by omega), fun j _ => by rw [h.1 6 (by omega)]⟩
theorem hy_X.fr {n t b p : Nat} {w v w' v' : hg_W} (h : hy_X n t b p w v) (h1 : hy_PC t w w') (h2 : ∀ k, k ≠ 3 → w' 17 k = w 17 k) (h3 : hy_PS t v v') : hy_X n t b p w' v' := by
  unfold hy_X hy_B at h ⊢
  have ht := h.2.2.1.2
  rw [h2 1 (by omega), h2 4 (by omega), h2 5 (by omega), h2 6 (by omega), h2 7 (by omega), h2 8 (by omega), h1.1 18 (by omega) (by omega), h3.1 5 (by omega) (by omega) (by omega), h3.1 14 (by omega) (by omega) (by omega), h3.2.1 8 (by omega) (by omega) (by omega), h3.2.1 11 (by omega) (by omega) (by omega), h3.2.1 20 (by omega) (by omega) (by omega), h3.2.1 21 (by omega) (by omega) (by omega), h3.2.1 22 (by omega) (by omega) (by omega), h3.2.1 23 (by omega) (by omega) (by omega)]
  exact h
theorem hy_X.next {n t b p : Nat} {w v : hg_W} (h : hy_X n t b p w v) : ∃ (w' v' : hg_W) (b' p' : Nat), fX2_step w = some (w', 0) ∧ fX5_next v = some (v', 0) ∧ hy_X n t b' p' w' v' ∧ p ≤ b' ∧ hy_LC w w' ∧ hy_LM v v' := by
  obtain ⟨hB, h8, ⟨ht, ht6⟩, ⟨h4, h20, -, -⟩, ⟨-, hp, -⟩, -⟩ := h
  obtain ⟨w', v', b', p', g1, g2, g3, g4, g5, g6, g7, g8, g9, g10, g11, g12, g13⟩ := hy_step hB h8 h4 h20 hp
  exact ⟨w', v', b', p', g1, g2, ⟨hB.fr g3 g4, by rw [g3.2 8 (by omega) (by omega) (by omega) (by omega)]; exact h8, ⟨by rw [g4.2 11 (by omega) (by omega) (by omega) (by omega)]; exact ht, ht6⟩, ⟨g5, g6, g7, g8⟩, ⟨g10, g11, g13⟩, g12⟩, g9, g3, g4⟩
theorem hy_M.lm {t : Nat} {O S : List Int} {op : Int} {v v' : hg_W} (h : hy_M t O S op v) (h1 : hy_LM v v') : hy_M t O S op v' := by
  unfold hy_M at h ⊢
  rw [h1.2 26 (by omega) (by omega) (by omega) (by omega), h1.2 27 (by omega) (by omega) (by omega) (by omega), h1.2 28 (by omega) (by omega) (by omega) (by omega), h1.1 15 (by omega), h1.1 6 (by omega)]
  exact h
theorem hy_K.lc {t : Nat} {C : List Int} {w w' : hg_W} (h : hy_K t C w) (ht : t < 6) (h1 : hy_LC w w') : hy_K t C w' := by
  unfold hy_K at h ⊢
  rw [h1.2 2 (by omega) (by omega) (by omega) (by omega), h1.2 3 (by omega) (by omega) (by omega) (by omega), h1.1 (3 + t) (by omega)]
  exact h
/-! what codes do to the stack of a text -/
def hy_ex : List Int → Nat → Nat → Prop
  | [], a, b => a = b
  | c :: l, a, b => (-15 ≤ c ∧ c ≤ 9999) ∧ (if -6 ≤ c then a < 39 ∧ hy_ex l (a + 1) b else if c = -15 ∨ c = -9 then 1 ≤ a ∧ hy_ex l a b else 2 ≤ a ∧ hy_ex l (a - 1) b)
theorem hy_exA {m : List Int} {c : Nat} : ∀ (l : List Int) (a b : Nat), hy_ex l a b → hy_ex m b c → hy_ex (l ++ m) a c := by
  intro l
  induction l with
  | nil =>
    intro a b h1 h2
    have h1' : a = b := h1
    subst h1'
    exact h2
  | cons x l ih =>
    intro a b h1 h2
    obtain ⟨g1, g2⟩ := h1
    refine ⟨g1, ?_⟩
    by_cases q1 : -6 ≤ x
    · rw [if_pos q1] at g2 ⊢
      exact ⟨g2.1, ih _ _ g2.2 h2⟩
    · rw [if_neg q1] at g2 ⊢
      by_cases q2 : x = -15 ∨ x = -9
      · rw [if_pos q2] at g2 ⊢
        exact ⟨g2.1, ih _ _ g2.2 h2⟩
      · rw [if_neg q2] at g2 ⊢
        exact ⟨g2.1, ih _ _ g2.2 h2⟩
theorem hy_ex1 {a : Nat} {x : Int} (h : x = -15 ∨ x = -9) (ha : 1 ≤ a) : hy_ex [x] a a := by
  refine ⟨by omega, ?_⟩
  rw [if_neg (by omega), if_pos h]
  exact ⟨ha, rfl⟩
theorem hy_ex2 {a : Nat} {x : Int} (h : -15 < x ∧ x < -6 ∧ x ≠ -9) : hy_ex [x] (a + 2) (a + 1) := by
  refine ⟨by omega, ?_⟩
  rw [if_neg (by omega), if_neg (by omega)]
  exact ⟨by omega, by show a + 2 - 1 = a + 1; omega⟩
/-! levels -/
def hy_lo (l : Nat) : Nat := if l = 0 then 1 else if l = 1 then 2 else if l = 2 then 3 else l + 2
def hy_li (l : Nat) : Nat := if l = 0 then 1 else if l = 1 then 2 else l + 2
theorem hy_loM {l : Nat} : hy_lo l ≤ hy_lo (l + 1) := by
  unfold hy_lo
  repeat' split
  all_goals omega
theorem hy_liM {l : Nat} : hy_li l ≤ hy_li (l + 1) := by
  unfold hy_li
  repeat' split
  all_goals omega
def hy_cmp (P : List Int) : Prop := ∃ (P2 R : List Int) (c : Int), P = P2 ++ c :: R ∧ (0 ≤ c ∧ c ≤ 19) ∧ hy_rk c = 4 ∧ ∀ s, s ∈ P2 → (0 ≤ s ∧ s ≤ 19) ∧ 5 ≤ hy_rk s
theorem hy_cmp.app {P Q : List Int} (h : hy_cmp P) : hy_cmp (P ++ Q) := by
  obtain ⟨P2, R, c, h1, h2, h3, h4⟩ := h
  exact ⟨P2, R ++ Q, c, by rw [h1, List.append_assoc]; rfl, h2, h3, h4⟩
/-- a sign of a level -/
theorem hy_sgn {c : Int} {l : Nat} (h : hy_lev c = (l : Int)) : (-15 < c ∧ c < -6 ∧ c ≠ -9) ∧ l ≤ 4 ∧ hy_rk (4 - c) = hy_li l ∧ hy_lo l ≤ hy_rk (4 - c) ∧ hy_ls (4 - c) = (if l = 2 then 5 else hy_lo l) ∧ hs_enc c = 4 - c ∧ (12 < 4 - c ↔ 2 ≤ l) ∧ hy_rk (4 - c) < hy_li (l + 1) := by
  have hc : c = -14 ∨ c = -13 ∨ c = -12 ∨ c = -11 ∨ c = -10 ∨ c = -8 ∨ c = -7 := by
    unfold hy_lev at h
    by_cases q : c = -14
    · exact Or.inl q
    · by_cases q : c = -13
      · omega
      · by_cases q : c = -12
        · omega
        · by_cases q : c = -11
          · omega
          · by_cases q : c = -10
            · omega
            · by_cases q : c = -8
              · omega
              · by_cases q : c = -7
                · omega
                · exfalso
                  have e : (if c = -14 then (4 : Int) else if c = -13 then 3 else if c = -12 then 3 else if c = -11 then 2 else if c = -10 then 2 else if c = -9 then -1 else if c = -8 then 1 else if c = -7 then 0 else -1) = -1 := by
                    rw [if_neg (by omega), if_neg (by omega), if_neg (by omega), if_neg (by omega), if_neg (by omega)]
                    by_cases q9 : c = -9
                    · rw [if_pos q9]
                    · rw [if_neg q9, if_neg (by omega), if_neg (by omega)]
                  rw [e] at h
                  omega
  rcases hc with rfl | rfl | rfl | rfl | rfl | rfl | rfl
  · obtain rfl : l = 4 := by have h' : (4 : Int) = l := h; omega
    decide
  · obtain rfl : l = 3 := by have h' : (3 : Int) = l := h; omega
    decide
  · obtain rfl : l = 3 := by have h' : (3 : Int) = l := h; omega
    decide
  · obtain rfl : l = 2 := by have h' : (2 : Int) = l := h; omega
    decide
  · obtain rfl : l = 2 := by have h' : (2 : Int) = l := h; omega
    decide
  · obtain rfl : l = 1 := by have h' : (1 : Int) = l := h; omega
    decide
  · obtain rfl : l = 0 := by have h' : (0 : Int) = l := h; omega
    decide
theorem hy_levR (c : Int) : -1 ≤ hy_lev c ∧ hy_lev c ≤ 4 := by
  unfold hy_lev
  repeat' split
  all_goals omega
def hy_Rs (n t : Nat) (w v : hg_W) (Oc : List Int) (k : Nat) (H : List Int) (l o z b0 : Nat) (X Y : Option (hg_W × Int)) : Prop :=
  ∃ w', X = some (w', 0) ∧ hy_PC t w w' ∧
   ((∃ (s : Nat) (v' : hg_W), hy_F t s w' ∧ Y = some (v', 0) ∧ v' 0 21 = (s : Int) ∧ hy_PM t v v') ∨
    ∃ (v' : hg_W) (N' b p : Nat) (P C Oq : List Int) (m : Int), Y = hy_b0 N' v' m ∧ hy_PM t v v' ∧ hy_X n t b p w' v' ∧ hy_K t (Oc ++ C) w' ∧ hy_M t Oq (P ++ H) ((o : Int) + hy_ct P - (k : Int)) v' ∧ (Oc ++ C).map hs_enc ++ List.replicate k 19 = Oq ++ P ∧ (k ≠ 0 → P = []) ∧ (∀ s, s ∈ P → (0 ≤ s ∧ s ≤ 19) ∧ hy_lo l ≤ hy_rk s) ∧ (hy_lev (w' 17 6) < (l : Int) ∨ (hy_lev (w' 17 6) = 2 ∧ hy_cmp P)) ∧ Oq.length + P.length + H.length ≤ b ∧ n ≤ b + N' ∧ b0 ≤ b ∧ ∀ a, a ≤ 5 * o + l → hy_ex C (a + z) (a + 1))
def hy_Sp (n t M : Nat) : Prop := ∀ (l o : Nat) (w v : hg_W) (Oc : List Int) (k : Nat) (H : List Int) (b p N : Nat) (x2 : Int), l ≤ 5 → o ≤ 5 → 6 * (5 - o) + (5 - l) < M → hy_X n t b p w v → hy_K t Oc w → hy_M t (Oc.map hs_enc) (List.replicate k 19 ++ H) (o : Int) v → (k ≠ 0 → l = 5) → k ≤ o → hy_low H (hy_li l) → Oc.length + k + H.length ≤ b → n ≤ b + N → (l ≤ 2 → x2 = 1) → (3 ≤ l → x2 = 0 ∨ w 17 6 ≠ -9) → (x2 = 0 ∨ x2 = 1) → hy_Rs n t w v Oc k H l o 0 b (fX2_readPart M w (l : Int) (o : Int)) (hy_b1 N v x2)
theorem hy_loop {n t l o M : Nat} (hSp : hy_Sp n t M) (hl : l ≤ 4) (ho : o ≤ 5) (hM0 : 6 * (5 - o) + (5 - (l + 1)) < M) {H : List Int} (hlow : hy_low H (hy_li l)) {most : Nat} (hmost : most = if l = 2 then 1 else 160) :
    ∀ (d F N i b p : Nat) (w v : hg_W) (Oc P Oq : List Int) (m : Int), d < F → n ≤ b + d → hy_X n t b p w v → hy_K t Oc w → hy_M t Oq (P ++ H) ((o : Int) + hy_ct P) v → Oc.map hs_enc = Oq ++ P → (∀ s, s ∈ P → (0 ≤ s ∧ s ≤ 19) ∧ hy_lo l ≤ hy_rk s) → (l = 2 → i = 0 → ∀ s, s ∈ P → 5 ≤ hy_rk s) → (hy_lev (w 17 6) < ((l + 1 : Nat) : Int) ∨ (hy_lev (w 17 6) = 2 ∧ hy_cmp P)) → Oq.length + P.length + H.length ≤ b → n ≤ b + N → (l ≠ 2 → i ≤ b) → (l = 2 → i ≤ 1) → (l = 2 → i = 1 → hy_lev (w 17 6) = 2 → hy_cmp P) →
    hy_Rs n t w v Oc 0 H l o 1 b (fX2_readPart_93 (fX2_readPart M) F w (l : Int) (o : Int) (most : Int) (i : Int)) (hy_b0 N v m) := by
  intro d
  induction d with
  | zero =>
    intro F N i b p w v Oc P Oq m hF hnd hX hK hM heq hP hP2 hend hlen hN hi1 hi2 hi3
    obtain ⟨F, rfl⟩ : ∃ z, F = z + 1 := ⟨F - 1, by omega⟩
    obtain ⟨hB, h8, ⟨ht, ht6⟩, h4s, ⟨hbp, hpn, hne⟩, htk⟩ := id hX
    have h20 : w 17 6 = -20 := by
      rcases Int.lt_trichotomy (w 17 6) (-20) with h | h | h
      · have := hne (by omega); omega
      · exact h
      · have := hne (by omega); omega
    have hlev : hy_lev (w 17 6) = -1 := by rw [h20]; rfl
    refine ⟨w, ?_, hy_PC.rf, Or.inr ⟨v, N, b, p, P, [], Oq, m, rfl, hy_PM.rf, hX, by rw [List.append_nil]; exact hK, by rw [show ((o : Int) + hy_ct P - ((0 : Nat) : Int)) = (o : Int) + hy_ct P by omega]; exact hM, by rw [List.append_nil, List.replicate_zero, List.append_nil]; exact heq, fun h => absurd rfl h, hP, Or.inl (by omega), hlen, hN, Nat.le_refl _, fun a _ => rfl⟩⟩
    simp only [fX2_readPart_93]
    rw [hy_levelOf (by unfold hx_c; omega), hp_bd, hlev, hx_wr01.2.2, wr_id (x := (l : Int)) (by omega) (by omega), if_neg (show ¬ (-1 : Int) = (l : Int) by omega)]
    unfold fX2_readPart_141
    rw [ite_self]
  | succ d ih =>
    intro F N i b p w v Oc P Oq m hF hnd hX hK hM heq hP hP2 hend hlen hN hi1 hi2 hi3
    obtain ⟨F, rfl⟩ : ∃ z, F = z + 1 := ⟨F - 1, by omega⟩
    obtain ⟨hB, h8, ⟨ht, ht6⟩, h4s, ⟨hbp, hpn, hne⟩, htk⟩ := id hX
    have hn160 := hB.1.1
    obtain ⟨⟨tk1, tk2, tk3, tk4⟩, -, -, -, -, -, -, -, -, t41, t59, -⟩ := hy_tkI htk
    have hlr := hy_levR (w 17 6)
    have stay : (hy_lev (w 17 6) < (l : Int) ∨ (hy_lev (w 17 6) = 2 ∧ hy_cmp P)) → hy_Rs n t w v Oc 0 H l o 1 b (some (w, 0)) (hy_b0 N v m) := fun hq =>
      ⟨w, rfl, hy_PC.rf, Or.inr ⟨v, N, b, p, P, [], Oq, m, rfl, hy_PM.rf, hX, by rw [List.append_nil]; exact hK, by rw [show ((o : Int) + hy_ct P - ((0 : Nat) : Int)) = (o : Int) + hy_ct P by omega]; exact hM, by rw [List.append_nil, List.replicate_zero, List.append_nil]; exact heq, fun h => absurd rfl h, hP, hq, hlen, hN, Nat.le_refl _, fun a _ => rfl⟩⟩
    simp only [fX2_readPart_93]
    unfold fX2_readPart_141
    rw [hy_levelOf (by unfold hx_c; omega), hp_bd, wr_id (x := hy_lev (w 17 6)) (by omega) (by omega), wr_id (x := (l : Int)) (by omega) (by omega), wr_id (x := (i : Int)) (by omega) (by
      by_cases q : l = 2
      · have := hi2 q; omega
      · have := hi1 q; omega)]
    have hm160 : most ≤ 160 := by rw [hmost]; split <;> omega
    rw [wr_id (x := (most : Int)) (by omega) (by omega)]
    by_cases qi : (most : Int) ≤ (i : Int)
    · rw [if_pos qi]
      refine stay ?_
      by_cases q : l = 2
      · rw [if_pos q] at hmost
        have h1 : i = 1 := by have := hi2 q; omega
        by_cases q2 : hy_lev (w 17 6) = 2
        · exact Or.inr ⟨q2, hi3 q h1 q2⟩
        · rcases hend with h | h
          · left; omega
          · exact Or.inr h
      · rw [if_neg q] at hmost
        have h1 := hi1 q
        have h20 : w 17 6 = -20 := by
          rcases Int.lt_trichotomy (w 17 6) (-20) with h | h | h
          · have := hne (by omega); omega
          · exact h
          · have := hne (by omega); omega
        left
        rw [h20]
        show (-1 : Int) < (l : Int)
        omega
    · rw [if_neg qi]
      by_cases ql : hy_lev (w 17 6) = (l : Int)
      · rw [if_pos ql]
        obtain ⟨⟨s1, s2, s3⟩, s4, s5, s6, s7, s8, s9, s10⟩ := hy_sgn ql
        obtain ⟨sg, hsg⟩ : ∃ sg, sg = 4 - w 17 6 := ⟨_, rfl⟩
        rw [← hsg] at s5 s6 s7 s8 s9 s10
        have hb1 : b < p := hne (by omega)
        have hi0 : l = 2 → i = 0 := fun q => by
          rw [if_pos q] at hmost
          have := hi2 q
          omega
        have hctP := hy_ctB P
        -- the reference: between, then the next token
        obtain ⟨v1, g1, g2, g3⟩ := hy_betw (s := sg) ht6 (by omega) (by rw [s5]; exact hlow) hM ht (fun x hx => by
          obtain ⟨x1, x2⟩ := hP x hx
          refine ⟨x1, ?_⟩
          rw [s7]
          by_cases q : l = 2
          · rw [if_pos q]; exact hP2 q (hi0 q) x hx
          · rw [if_neg q]; exact x2) (by omega) (by omega)
        obtain ⟨N, rfl⟩ : ∃ z, N = z + 1 := ⟨N - 1, by omega⟩
        have hX1 := hX.fr (w' := w) (v' := v1) hy_PC.rf (fun _ _ => rfl) g3
        obtain ⟨w2, v2, b2, p2, k1, k2, k3, k4, k5, k6⟩ := hX1.next
        have eY : hy_b0 (N + 1) v m = hy_b1 N v2 (if 12 < sg then 0 else 1) := by
          unfold hy_b0
          rw [wr_id (x := v 0 22) (by omega) (by omega), wr_id (x := 59) (by omega) (by omega), wr_id (x := 41) (by omega) (by omega), if_neg (show ¬ v 0 22 = 59 by omega), if_neg (show ¬ v 0 22 = 41 by omega), hy_signOf htk, if_pos (show 0 ≤ hy_lev (w 17 6) by omega), hp_bd, ← hsg, wr_id (x := sg) (by omega) (by omega), if_neg (show ¬ sg = -1 by omega), g1, hp_bd, hx_wr01.2.1, if_neg (show ¬ (1 : Int) = 0 by omega), wr_id (x := 12) (by omega) (by omega)]
          by_cases q : 12 < sg
          · rw [if_pos q, if_pos q, hy_e1, k2, hp_bd]
          · rw [if_neg q, if_neg q, hy_e1, k2, hp_bd]
        have elen : Oc.length = Oq.length + P.length := by
          have := congrArg List.length heq
          rw [List.length_map, List.length_append] at this
          exact this
        have hM2 : hy_M t (Oc.map hs_enc) (List.replicate 0 19 ++ sg :: H) (o : Int) v2 := by
          rw [heq, List.replicate_zero, List.nil_append]
          have := g2.lm k6
          rw [show (o : Int) + hy_ct P - hy_ct P = (o : Int) by omega] at this
          exact this
        have hR := hSp (l + 1) o w2 v2 Oc 0 (sg :: H) b2 p2 N (if 12 < sg then 0 else 1) (by omega) ho hM0 k3 (hK.lc ht6 k5) hM2 (fun h => absurd rfl h) (by omega) (Or.inr ⟨by show 0 ≤ sg ∧ sg ≤ 19; omega, s10⟩) (by rw [List.length_cons]; omega) (by omega) (fun hl2 => by rw [if_neg (by omega)]) (fun hl2 => Or.inl (by rw [if_pos (by omega)])) (by split <;> simp)
        rw [k1, hp_bd]
        obtain ⟨w3, r1, r2, hd⟩ := hR
        have r1' : fX2_readPart M w2 ((l : Int) + 1) (o : Int) = some (w3, 0) := by
          rw [show (l : Int) + 1 = ((l + 1 : Nat) : Int) by omega]; exact r1
        have wtok : wr (w 17 6) = w 17 6 := wr_id (by omega) (by omega)
        rw [r1', hp_bd, eY]
        rcases hd with ⟨s, v3, f1, f2, f3, f4⟩ | ⟨v3, N3, b3, p3, P3, C3, Or3, m3, f1, f2, f3, f4, f5, f6, f7, f8, f9, f10, f11, f12, f13⟩
        · -- a fault
          obtain ⟨w4, j1, j2, j3⟩ := hy_writeF (c := w 17 6) f1 ht6 wtok
          refine ⟨w4, ?_, ((hy_LC.pc k5).tr r2).tr j3, Or.inl ⟨s, v3, j2, f2, f3, (g3.pm.tr k6.pm).tr f4⟩⟩
          rw [j1, hp_bd, hy_98F j2 (by omega) (by omega)]
        · -- on
          have elen3 : (Oc ++ C3).length = Or3.length + P3.length := by
            have := congrArg List.length f6
            rw [List.replicate_zero, List.append_nil, List.length_map, List.length_append (as := Or3)] at this
            exact this
          rw [List.length_cons] at f10
          obtain ⟨w4, j1, j2, j3, j4⟩ := hy_write (c := w 17 6) f4 ht6 (by have := f3.2.2.2.2.1; omega) wtok
          have hX4 := f3.fr j3 j4 (hy_PS.rf (v := v3))
          have e6 : w4 17 6 = w3 17 6 := j4 6 (by omega)
          have hIH := ih F N3 (i + 1) b3 p3 w4 v3 (Oc ++ (C3 ++ [w 17 6])) (P3 ++ [sg]) Or3 m3 (by omega) (by omega) hX4 (by rw [← List.append_assoc]; exact j2) (by
            rw [List.append_assoc, List.singleton_append, hy_ctA, show hy_ct [sg] = 0 by simp only [hy_ct]; rw [if_neg (by omega)]; rfl, show (o : Int) + (hy_ct P3 + 0) = (o : Int) + hy_ct P3 - ((0 : Nat) : Int) by omega]
            exact f5) (by
            rw [List.replicate_zero, List.append_nil] at f6
            rw [← List.append_assoc, List.map_append, f6, List.append_assoc, List.map_cons, s8, List.map_nil]) (fun s hs => by
            rw [List.mem_append, List.mem_singleton] at hs
            rcases hs with h | h
            · have hh := f8 s h
              exact ⟨hh.1, Nat.le_trans hy_loM hh.2⟩
            · rw [h]; exact ⟨by omega, s6⟩) (fun _ h => absurd h (by omega)) (by
            rw [e6]
            rcases f9 with h | ⟨h, h'⟩
            · exact Or.inl h
            · exact Or.inr ⟨h, h'.app⟩) (by rw [List.length_append, List.length_singleton]; omega) f11 (fun q => by have := hi1 q; omega) (fun q => by have := hi0 q; omega) (fun q _ _ => ⟨P3, [], sg, rfl, by omega, by rw [s5, q]; rfl, fun s hs => by
              have hh := f8 s hs
              rw [q] at hh
              exact ⟨hh.1, hh.2⟩⟩)
          rw [j1, hp_bd, show (i : Int) + 1 = ((i + 1 : Nat) : Int) by omega]
          obtain ⟨w5, q1, q2, q3⟩ := hIH
          refine ⟨w5, q1, (((hy_LC.pc k5).tr r2).tr j3).tr q2, ?_⟩
          rw [f1]
          have fPM := (g3.pm.tr k6.pm).tr f2
          rcases q3 with ⟨s, v5, y1, y2, y3, y4⟩ | ⟨v5, N5, b5, p5, P5, C5, Or5, m5, y1, y2, y3, y4, y5, y6, y7, y8, y9, y10, y11, y12, y13⟩
          · exact Or.inl ⟨s, v5, y1, y2, y3, fPM.tr y4⟩
          · refine Or.inr ⟨v5, N5, b5, p5, P5, (C3 ++ [w 17 6]) ++ C5, Or5, m5, y1, fPM.tr y2, y3, ?_, y5, ?_, y7, y8, y9, y10, y11, by omega, fun a ha => ?_⟩
            · rw [← List.append_assoc]; exact y4
            · rw [← List.append_assoc (as := Oc)]; exact y6
            · refine hy_exA _ _ (a + 1) (hy_exA _ _ (a + 2) ?_ ?_) (y13 a ha)
              · exact f13 (a + 1) (by omega)
              · exact hy_ex2 ⟨s1, s2, s3⟩
      · rw [if_neg ql]
        refine stay ?_
        rcases hend with h | h
        · left; omega
        · exact Or.inr h
