/-! ===== text: the next token, on both sides: words ===== -/
def hy_eq (T : Nat → Int) (s L i : Nat) : Bool := decide (i < 12 ∧ hg_sle.getD i 0 = L ∧ ∀ j, j < L → ((hg_sby.getD i []).getD j 0).toInt = T (s + j))
theorem hy_lets : ∀ i, i < 12 → (2 ≤ hg_sle.getD i 0 ∧ hg_sle.getD i 0 ≤ 6) ∧ ∀ j, j < hg_sle.getD i 0 → (97 ≤ ((hg_sby.getD i []).getD j 0).toInt ∧ ((hg_sby.getD i []).getD j 0).toInt ≤ 122) := by decide +kernel
theorem hy_apart : ∀ i, i < 12 → ∀ k, k < 12 → hg_sle.getD i 0 = hg_sle.getD k 0 → (∀ j, j < hg_sle.getD i 0 → (hg_sby.getD i []).getD j 0 = (hg_sby.getD k []).getD j 0) → i = k := by decide +kernel
theorem hy_one {T : Nat → Int} {s L : Nat} : ∃ i0, i0 ≤ 12 ∧ hy_eq T s L = fun i => decide (i < 12 ∧ i = i0) := by
  by_cases q : ∃ i, hy_eq T s L i = true
  · obtain ⟨i0, h0⟩ := q
    have h0' := h0
    unfold hy_eq at h0'
    obtain ⟨a1, a2, a3⟩ := of_decide_eq_true h0'
    refine ⟨i0, by omega, ?_⟩
    funext i
    by_cases q2 : hy_eq T s L i = true
    · have q3 := q2
      unfold hy_eq at q3
      obtain ⟨b1, b2, b3⟩ := of_decide_eq_true q3
      have e := hy_apart i b1 i0 a1 (by rw [a2, b2]) (fun j hj => by
        have e1 := b3 j (by omega)
        have e2 := a3 j (by omega)
        exact Int32.toInt_inj.mp (e1.trans e2.symm))
      rw [q2, e]
      exact (decide_eq_true ⟨a1, rfl⟩).symm
    · rw [Bool.not_eq_true] at q2
      rw [q2]
      refine (decide_eq_false ?_).symm
      rintro ⟨_, rfl⟩
      rw [h0] at q2
      exact absurd q2 (by simp)
  · refine ⟨12, Nat.le_refl _, ?_⟩
    funext i
    have q2 : hy_eq T s L i = false := by
      cases e : hy_eq T s L i with
      | true => exact absurd ⟨i, e⟩ q
      | false => rfl
    rw [q2]
    exact (decide_eq_false (by omega)).symm
def hy_idx (j : Nat) : Nat := if j ≤ 8 then j else if j ≤ 20 then 12 else j - 12
def hy_first (e : Nat → Bool) : Nat → Nat → Int
  | 0, _ => -21
  | m + 1, j => if e (hy_idx j) then -1 - (j : Int) else hy_first e m (j + 1)
def hy_firstM (e : Nat → Bool) : Nat → Nat → Nat
  | 0, _ => 12
  | m + 1, k => if e (hx_jd k) then k else hy_firstM e m (k + 1)
theorem hy_both : ∀ i0, i0 < 13 → ((hy_firstM (fun i => decide (i < 12 ∧ i = i0)) 12 0 = 12 ∧ hy_first (fun i => decide (i < 12 ∧ i = i0)) 24 0 = -21) ∨ (hy_firstM (fun i => decide (i < 12 ∧ i = i0)) 12 0 < 3 ∧ hy_first (fun i => decide (i < 12 ∧ i = i0)) 24 0 = -22 - (hy_firstM (fun i => decide (i < 12 ∧ i = i0)) 12 0 : Int)) ∨ (3 ≤ hy_firstM (fun i => decide (i < 12 ∧ i = i0)) 12 0 ∧ hy_firstM (fun i => decide (i < 12 ∧ i = i0)) 12 0 < 9 ∧ hy_first (fun i => decide (i < 12 ∧ i = i0)) 24 0 = 2 - (hy_firstM (fun i => decide (i < 12 ∧ i = i0)) 12 0 : Int)) ∨ (9 ≤ hy_firstM (fun i => decide (i < 12 ∧ i = i0)) 12 0 ∧ hy_firstM (fun i => decide (i < 12 ∧ i = i0)) 12 0 < 12 ∧ hy_first (fun i => decide (i < 12 ∧ i = i0)) 24 0 = 2 - (hy_firstM (fun i => decide (i < 12 ∧ i = i0)) 12 0 : Int))) := by decide +kernel
theorem hy_bothE (T : Nat → Int) (s L : Nat) : ∃ (k : Nat) (r : Int), hy_firstM (hy_eq T s L) 12 0 = k ∧ hy_first (hy_eq T s L) 24 0 = r ∧ ((k = 12 ∧ r = -21) ∨ (k < 3 ∧ r = -22 - (k : Int)) ∨ (3 ≤ k ∧ k < 12 ∧ r = 2 - (k : Int))) := by
  obtain ⟨i0, h1, h2⟩ := hy_one (T := T) (s := s) (L := L)
  rw [h2]
  refine ⟨_, _, rfl, rfl, ?_⟩
  have h3 := hy_both i0 (by omega)
  omega
/-! the class's -/
theorem hy_wordOf {w : hg_W} {j : Nat} (hj : j < 24) : fX2_wordOf w (-1 - (j : Int)) = some (w, ((hy_idx j : Nat) : Int)) := by
  unfold fX2_wordOf hy_idx
  rw [wr_id (x := -1 - (j : Int)) (by omega) (by omega)]
  rcases (by omega : j = 0 ∨ j = 1 ∨ j = 2 ∨ j = 3 ∨ j = 4 ∨ j = 5 ∨ j = 6 ∨ j = 7 ∨ j = 8 ∨ j = 9 ∨ j = 10 ∨ j = 11 ∨ j = 12 ∨ j = 13 ∨ j = 14 ∨ j = 15 ∨ j = 16 ∨ j = 17 ∨ j = 18 ∨ j = 19 ∨ j = 20 ∨ j = 21 ∨ j = 22 ∨ j = 23) with rfl | rfl | rfl | rfl | rfl | rfl | rfl | rfl | rfl | rfl | rfl | rfl | rfl | rfl | rfl | rfl | rfl | rfl | rfl | rfl | rfl | rfl | rfl | rfl <;> simp (disch := omega) only [if_pos, if_neg] <;> rfl
theorem hy_sl {i : Nat} (hi : i < 13) : hg_sl (i : Int) = some (hg_sle.getD i 0 : Int) := by
  unfold hg_sl
  rw [if_pos (by omega), show (i : Int).toNat = i by omega]
theorem hy_sle : ∀ i, i < 13 → hg_sle.getD i 0 ≤ 6 := by decide +kernel
theorem hy_stand1 {w : hg_W} {s L i : Nat} (hs : w 17 5 = (s : Int)) (hi : i < 13) (hL : hg_sle.getD i 0 = L) (hn : s + L ≤ 160) (hb : ∀ k, s ≤ k → k < s + L → 0 ≤ w 18 k ∧ w 18 k ≤ 255) :
    ∀ (m N j : Nat), m < N → j + m = L → fX2_stands_20 N w (i : Int) (j : Int) = some (w, if (∀ k, k < L → j ≤ k → ((hg_sby.getD i []).getD k 0).toInt = w 18 (s + k)) then 1 else 0) := by
  intro m
  induction m with
  | zero =>
    intro N j h1 h2
    obtain ⟨N, rfl⟩ : ∃ z, N = z + 1 := ⟨N - 1, by omega⟩
    have := hy_sle i hi
    simp only [fX2_stands_20]
    rw [hy_sl hi, hp_b, wr_id (x := (hg_sle.getD i 0 : Int)) (by omega) (by omega), wr_id (x := (j : Int)) (by omega) (by omega), if_pos (by omega), hx_wr01.2.1, if_pos (Or.inr rfl), if_pos (fun k h3 h4 => absurd h3 (by omega))]
  | succ m ih =>
    intro N j h1 h2
    obtain ⟨N, rfl⟩ : ∃ z, N = z + 1 := ⟨N - 1, by omega⟩
    have := hy_sle i hi
    have hbj := hb (s + j) (by omega) (by omega)
    have hr : -2147483648 ≤ ((hg_sby.getD i []).getD j 0).toInt ∧ ((hg_sby.getD i []).getD j 0).toInt < 2147483648 := ⟨Int32.le_toInt _, Int32.toInt_lt _⟩
    have hsc : hg_sc (i : Int) (j : Int) = some (((hg_sby.getD i []).getD j 0).toInt) := by
      unfold hg_sc
      rw [wr_id (x := (j : Int)) (by omega) (by omega), show (i : Int).toNat = i by omega, show (j : Int).toNat = j by omega, if_pos (by omega)]
    simp only [fX2_stands_20]
    rw [hy_sl hi, hp_b, wr_id (x := (hg_sle.getD i 0 : Int)) (by omega) (by omega), wr_id (x := (j : Int)) (by omega) (by omega), if_neg (by omega), hsc, hp_b, hs, show (s : Int) + (j : Int) = ((s + j : Nat) : Int) by omega, ag_h18 (by omega) (by omega), hp_b, show ((s + j : Nat) : Int).toNat = s + j by omega, wr_id (x := w 18 (s + j)) (by omega) (by omega), wr_id hr.1 hr.2, hx_wr01.1, if_pos (Or.inl rfl)]
    by_cases q : ((hg_sby.getD i []).getD j 0).toInt = w 18 (s + j)
    · rw [if_pos q, show (j : Int) + 1 = ((j + 1 : Nat) : Int) by omega, ih N (j + 1) (by omega) (by omega)]
      congr 2
      by_cases q2 : ∀ k, k < L → j + 1 ≤ k → ((hg_sby.getD i []).getD k 0).toInt = w 18 (s + k)
      · rw [if_pos q2, if_pos (fun k h3 h4 => by
          by_cases q3 : k = j
          · rw [q3]; exact q
          · exact q2 k h3 (by omega))]
      · rw [if_neg q2, if_neg (fun h => q2 (fun k h3 h4 => h k h3 (by omega)))]
    · rw [if_neg q, if_neg (fun h => q (h j (by omega) (Nat.le_refl _)))]
theorem hy_stands {w : hg_W} {s L i : Nat} (hs : w 17 5 = (s : Int)) (hq : w 17 4 = ((s + L : Nat) : Int)) (hi : i < 13) (hL : 1 ≤ L) (hn : s + L ≤ 160) (hb : ∀ k, s ≤ k → k < s + L → 0 ≤ w 18 k ∧ w 18 k ≤ 255) : fX2_stands w (i : Int) = some (w, if hy_eq (w 18) s L i then 1 else 0) := by
  have h6 := hy_sle i hi
  unfold fX2_stands hy_eq
  rw [hy_sl hi, hp_b, hs, hq, wr_id (x := (hg_sle.getD i 0 : Int)) (by omega) (by omega), wr_id (x := ((s + L : Nat) : Int) - (s : Int)) (by omega) (by omega)]
  by_cases q : hg_sle.getD i 0 = L
  · have h12 : i < 12 := by
      rcases (by omega : i < 12 ∨ i = 12) with h | rfl
      · exact h
      · exact absurd q (by show ¬ (0 : Nat) = L; omega)
    have g := hy_stand1 hs hi q hn hb L hg_F 0 (by unfold hg_F; omega) (by omega)
    have g' : fX2_stands_20 hg_F w (i : Int) 0 = _ := g
    rw [if_pos (by omega), g']
    congr 2
    by_cases q2 : ∀ k, k < L → 0 ≤ k → ((hg_sby.getD i []).getD k 0).toInt = w 18 (s + k)
    · rw [if_pos q2, decide_eq_true ⟨h12, q, fun k hk => q2 k hk (by omega)⟩]; rfl
    · rw [if_neg q2, decide_eq_false (fun h => q2 (fun k hk _ => h.2.2 k hk))]; rfl
  · rw [if_neg (by omega), hx_wr01.1, if_pos (Or.inl rfl), decide_eq_false (fun h => q h.2.1)]
    rfl
theorem hy_41 {w : hg_W} {s L : Nat} (hs : w 17 5 = (s : Int)) (hq : w 17 4 = ((s + L : Nat) : Int)) (hL : 1 ≤ L) (hn : s + L ≤ 160) (hb : ∀ k, s ≤ k → k < s + L → 0 ≤ w 18 k ∧ w 18 k ≤ 255) :
    ∀ (m N j : Nat), m < N → j + m = 24 → fX2_stepOverWord_41 N w (-1 - (j : Int)) = some (w, hy_first (hy_eq (w 18) s L) m j) := by
  intro m
  induction m with
  | zero =>
    intro N j h1 h2
    obtain ⟨N, rfl⟩ : ∃ z, N = z + 1 := ⟨N - 1, by omega⟩
    simp only [fX2_stepOverWord_41, hy_first]
    rw [wr_id (x := -1 - (j : Int)) (by omega) (by omega), wr_id (x := -24) (by omega) (by omega), if_pos (by omega), wr_id (x := -21) (by omega) (by omega)]
  | succ m ih =>
    intro N j h1 h2
    obtain ⟨N, rfl⟩ : ∃ z, N = z + 1 := ⟨N - 1, by omega⟩
    have hix : hy_idx j < 13 := by
      unfold hy_idx
      split
      · omega
      · split <;> omega
    simp only [fX2_stepOverWord_41, hy_first]
    rw [wr_id (x := -1 - (j : Int)) (by omega) (by omega), wr_id (x := -24) (by omega) (by omega), if_neg (by omega), hy_wordOf (by omega), hp_bd, hy_stands hs hq hix hL hn hb, hp_bd]
    by_cases q : hy_eq (w 18) s L (hy_idx j) = true
    · rw [if_pos q, if_pos q, hx_wr01.2.1, if_neg (by omega)]
    · rw [if_neg q, if_neg q, hx_wr01.1, if_pos rfl, show -1 - (j : Int) + (-1) = -1 - ((j + 1 : Nat) : Int) by omega]
      exact ih N (j + 1) (by omega) (by omega)
/-! the reference's -/
def hy_pad (T : Nat → Int) (s L j : Nat) : Int := if L ≤ j then 32 else T (s + j)
def hy_rw (T : Nat → Int) (s L k : Nat) : Nat → Nat → Bool
  | 0, _ => true
  | m + 1, c => decide (hx_wd (8 * k + c) = hy_pad T s L c) && hy_rw T s L k m (c + 1)
theorem hy_rwI {T : Nat → Int} {s L k : Nat} : ∀ (m c : Nat), hy_rw T s L k m c = true ↔ ∀ j, c ≤ j → j < c + m → hx_wd (8 * k + j) = hy_pad T s L j := by
  intro m
  induction m with
  | zero => intro c; exact ⟨fun _ j h1 h2 => absurd h1 (by omega), fun _ => rfl⟩
  | succ m ih =>
    intro c
    unfold hy_rw
    rw [Bool.and_eq_true, ih (c + 1)]
    constructor
    · rintro ⟨h1, h2⟩ j h3 h4
      by_cases q : j = c
      · rw [q]; exact of_decide_eq_true h1
      · exact h2 j (by omega) (by omega)
    · intro h
      exact ⟨decide_eq_true (h c (Nat.le_refl _) (by omega)), fun j h3 h4 => h j (by omega) (by omega)⟩
theorem hy_26 {K2 : hg_W → Int → Int → Int → Option (hg_W × Int)} {v : hg_W} {s L k : Nat} {T : Nat → Int} (hn : s + L ≤ 160) (hk : k < 12) (hwd : ∀ j, j < 96 → v 14 j = hx_wd j) (hb : ∀ k, s ≤ k → k < s + L → (0 ≤ T k ∧ T k ≤ 255) ∧ v 5 k = T k) :
    ∀ (m N c : Nat) (b : Bool), m < N → c + m = 8 → fX5_wordFrom_26 K2 N v (s : Int) ((s + L : Nat) : Int) (k : Int) (if b then 1 else 0) (c : Int) = fX5_wordFrom_88 K2 v (s : Int) ((s + L : Nat) : Int) (k : Int) (if b && hy_rw T s L k m c then 1 else 0) := by
  have hwr : ∀ j, j < 96 → 0 ≤ hx_wd j ∧ hx_wd j ≤ 255 := by decide +kernel
  intro m
  induction m with
  | zero =>
    intro N c b h1 h2
    obtain ⟨N, rfl⟩ : ∃ z, N = z + 1 := ⟨N - 1, by omega⟩
    simp only [fX5_wordFrom_26]
    rw [wr_id (x := 8) (by omega) (by omega), wr_id (x := (c : Int)) (by omega) (by omega), if_pos (by omega), show hy_rw T s L k 0 c = true from rfl, Bool.and_true]
  | succ m ih =>
    intro N c b h1 h2
    obtain ⟨N, rfl⟩ : ∃ z, N = z + 1 := ⟨N - 1, by omega⟩
    simp only [fX5_wordFrom_26]
    rw [wr_id (x := 8) (by omega) (by omega), wr_id (x := (c : Int)) (by omega) (by omega), if_neg (by omega)]
    cases b with
    | false =>
      rw [show (if false = true then (1 : Int) else 0) = 0 from rfl, hx_wr01.1, if_pos rfl, Bool.false_and]
      rfl
    | true =>
      have hw := hwd (8 * k + c) (by omega)
      have hwr1 := hwr (8 * k + c) (by omega)
      have fin : ∀ x : Int, 0 ≤ x → x ≤ 255 → x = hy_pad T s L c → fX5_wordFrom_72 K2 (fX5_wordFrom_26 K2 N) v (s : Int) ((s + L : Nat) : Int) (k : Int) (c : Int) (hx_wd (8 * k + c)) x = fX5_wordFrom_88 K2 v (s : Int) ((s + L : Nat) : Int) (k : Int) (if true && hy_rw T s L k (m + 1) c then 1 else 0) := by
        intro x hx1 hx2 hx3
        unfold fX5_wordFrom_72 fX5_wordFrom_80
        rw [wr_id (x := hx_wd (8 * k + c)) (by omega) (by omega), wr_id (x := x) (by omega) (by omega), show (c : Int) + 1 = ((c + 1 : Nat) : Int) by omega]
        by_cases q : hx_wd (8 * k + c) = x
        · rw [if_pos q]
          have g := ih N (c + 1) true (by omega) (by omega)
          rw [show (if true = true then (1 : Int) else 0) = 1 from rfl] at g
          rw [g, hy_rw.eq_2, decide_eq_true (q.trans hx3), Bool.true_and, Bool.true_and]
        · rw [if_neg q]
          have g := ih N (c + 1) false (by omega) (by omega)
          rw [show (if false = true then (1 : Int) else 0) = 0 from rfl, Bool.false_and] at g
          rw [g, hy_rw.eq_2, decide_eq_false (fun h => q (h.trans hx3.symm)), Bool.true_and, Bool.false_and]
      rw [show (if true = true then (1 : Int) else 0) = 1 from rfl, hx_wr01.2.1, if_neg (show ¬ (1 : Int) = 0 by omega), ag_m14 (by omega) (by omega), hp_b, show (8 * (k : Int) + (c : Int)).toNat = 8 * k + c by omega, hw, wr_id (x := ((s + L : Nat) : Int)) (by omega) (by omega), wr_id (x := (s : Int) + (c : Int)) (by omega) (by omega)]
      by_cases q : L ≤ c
      · rw [if_pos (by omega)]
        exact fin 32 (by omega) (by omega) (by unfold hy_pad; rw [if_pos q])
      · have hbc := hb (s + c) (by omega) (by omega)
        rw [if_neg (by omega), ag_m5 (by omega) (by omega), hp_b, show ((s : Int) + (c : Int)).toNat = s + c by omega, hbc.2]
        exact fin (T (s + c)) (by omega) (by omega) (by unfold hy_pad; rw [if_neg q])
theorem hy_row {T : Nat → Int} {s L k : Nat} (hk : k < 12) (hlet : ∀ j, s ≤ j → j < s + L → 97 ≤ T j ∧ T j ≤ 122) : (decide (L ≤ 8) && hy_rw T s L k 8 0) = hy_eq T s L (hx_jd k) := by
  have hj : hx_jd k < 12 := by unfold hx_jd; split <;> omega
  obtain ⟨⟨l1, l2⟩, l3⟩ := hy_lets (hx_jd k) hj
  have ewd : ∀ j, j < 8 → hx_wd (8 * k + j) = if j < hg_sle.getD (hx_jd k) 0 then ((hg_sby.getD (hx_jd k) []).getD j 0).toInt else 32 := by
    intro j hj
    unfold hx_wd
    rw [show (8 * k + j) % 8 = j by omega, show (8 * k + j) / 8 = k by omega]
  unfold hy_eq
  rw [Bool.eq_iff_iff, Bool.and_eq_true, decide_eq_true_eq, decide_eq_true_eq, hy_rwI]
  constructor
  · rintro ⟨h1, h2'⟩
    have h2 : ∀ j, j < 8 → 0 ≤ j → hx_wd (8 * k + j) = hy_pad T s L j := fun j h3 h4 => h2' j h4 (by omega)
    have eL : hg_sle.getD (hx_jd k) 0 = L := by
      rcases Nat.lt_trichotomy (hg_sle.getD (hx_jd k) 0) L with q | q | q
      · have e := h2 (hg_sle.getD (hx_jd k) 0) (by omega) (by omega)
        unfold hy_pad at e
        rw [ewd _ (by omega), if_neg (by omega), if_neg (by omega)] at e
        have := hlet (s + hg_sle.getD (hx_jd k) 0) (by omega) (by omega)
        omega
      · exact q
      · have e := h2 L (by omega) (by omega)
        unfold hy_pad at e
        rw [ewd _ (by omega), if_pos q, if_pos (Nat.le_refl _)] at e
        have := l3 L q
        omega
    refine ⟨hj, eL, fun j hjL => ?_⟩
    have e := h2 j (by omega) (by omega)
    unfold hy_pad at e
    rw [ewd _ (by omega), if_pos (by omega), if_neg (by omega)] at e
    exact e
  · rintro ⟨-, h1, h2⟩
    refine ⟨by omega, fun j _ hj8 => ?_⟩
    unfold hy_pad
    rw [ewd j (by omega)]
    by_cases q : L ≤ j
    · rw [if_pos q, if_neg (by omega)]
    · rw [if_neg q, if_pos (by omega)]
      exact h2 j (by omega)
theorem hy_wordM {v : hg_W} {s L : Nat} {T : Nat → Int} (hn : s + L ≤ 160) (hwd : ∀ j, j < 96 → v 14 j = hx_wd j) (hb : ∀ k, s ≤ k → k < s + L → (97 ≤ T k ∧ T k ≤ 122) ∧ v 5 k = T k) :
    ∀ (m N k : Nat), m < N → k + m = 12 → fX5_wordFrom_2 N v (s : Int) ((s + L : Nat) : Int) (k : Int) = some (v, ((hy_firstM (hy_eq T s L) m k : Nat) : Int)) := by
  intro m
  induction m with
  | zero =>
    intro N k h1 h2
    obtain ⟨N, rfl⟩ : ∃ z, N = z + 1 := ⟨N - 1, by omega⟩
    simp only [fX5_wordFrom_2, hy_firstM]
    rw [wr_id (x := 12) (by omega) (by omega), wr_id (x := (k : Int)) (by omega) (by omega), if_pos (by omega)]
    rfl
  | succ m ih =>
    intro N k h1 h2
    obtain ⟨N, rfl⟩ : ∃ z, N = z + 1 := ⟨N - 1, by omega⟩
    have fin : ∀ b : Bool, b = decide (L ≤ 8) → fX5_wordFrom_26 (fX5_wordFrom_2 N) hg_F v (s : Int) ((s + L : Nat) : Int) (k : Int) (if b then 1 else 0) 0 = some (v, (((if hy_eq T s L (hx_jd k) then k else hy_firstM (hy_eq T s L) m (k + 1)) : Nat) : Int)) := by
      intro b hbb
      have g := hy_26 (K2 := fX5_wordFrom_2 N) (v := v) (s := s) (L := L) (k := k) (T := T) hn (by omega) hwd (fun j h3 h4 => ⟨⟨by have := hb j h3 h4; omega, by have := hb j h3 h4; omega⟩, (hb j h3 h4).2⟩) 8 hg_F 0 b (by unfold hg_F; omega) (by omega)
      have g' : fX5_wordFrom_26 (fX5_wordFrom_2 N) hg_F v (s : Int) ((s + L : Nat) : Int) (k : Int) (if b then 1 else 0) 0 = _ := g
      rw [g', hbb, hy_row (k := k) (by omega) (fun j h3 h4 => (hb j h3 h4).1)]
      unfold fX5_wordFrom_88
      by_cases q : hy_eq T s L (hx_jd k) = true
      · rw [if_pos q, if_pos q, hx_wr01.2.1, if_neg (show ¬ (1 : Int) = 0 by omega), wr_id (x := (k : Int)) (by omega) (by omega)]
      · rw [if_neg q, if_neg q, hx_wr01.1, if_pos rfl, show (k : Int) + 1 = ((k + 1 : Nat) : Int) by omega]
        exact ih N (k + 1) (by omega) (by omega)
    simp only [fX5_wordFrom_2, hy_firstM]
    rw [wr_id (x := 12) (by omega) (by omega), wr_id (x := (k : Int)) (by omega) (by omega), if_neg (by omega), wr_id (x := 8) (by omega) (by omega), wr_id (x := ((s + L : Nat) : Int) - (s : Int)) (by omega) (by omega)]
    unfold fX5_wordFrom_21
    by_cases q : 8 < L
    · rw [if_pos (by omega)]
      exact fin false (decide_eq_false (by omega)).symm
    · rw [if_neg (by omega)]
      exact fin true (decide_eq_true (by omega)).symm
