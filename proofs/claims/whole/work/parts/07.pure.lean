/-! ===== the pure layer: reads and stores within bounds ===== -/
theorem hp_ag {o c n : Nat} {w : hg_W} {k : Int} (h : hg_ln o c = n) (hn : n ≤ 2000) (h0 : 0 ≤ k) (h1 : k < (n : Int)) : hg_ag o w c k = some (w c k.toNat) := by
  unfold hg_ag
  rw [wr_id (by omega) (by omega), h, if_pos ⟨h0, h1⟩]
theorem hp_as {o c n : Nat} {w : hg_W} {k v : Int} (h : hg_ln o c = n) (hn : n ≤ 2000) (h0 : 0 ≤ k) (h1 : k < (n : Int)) : hg_as o w c k v = some (hg_up w c k.toNat (wr v)) := by
  unfold hg_as
  rw [wr_id (by omega) (by omega), h, if_pos ⟨h0, h1⟩]
theorem hp_ar {c n : Nat} {k : Int} (h : hg_lq 0 c = n) (hn : n ≤ 2000) (h0 : 0 ≤ k) (h1 : k < (n : Int)) : hg_ar c k = some (c + 1 + k.toNat) := by
  unfold hg_ar
  rw [wr_id (by omega) (by omega), h, if_pos ⟨h0, h1⟩]
theorem hp_bd {β : Type} {w : hg_W} {v : Int} {f : hg_W → Int → Option β} : hg_bd (some (w, v)) f = f w v := rfl
theorem hp_pt {w : hg_W} {c k : Nat} {v : Int} : hg_pt w c k v = some (hg_up w c k (wr v)) := rfl
theorem hp_b {α β : Type} {x : α} {f : α → Option β} : (some x).bind f = f x := rfl
theorem hp_ln_row : ∀ c, c < 9 → 3 ≤ c → hg_ln 0 c = 160 := by decide +kernel
theorem hp_ln_end : ∀ c, c < 16 → 10 ≤ c → hg_ln 0 c = 3 := by decide +kernel
theorem hp_ln_sh : ∀ c, c < 54 → 50 ≤ c → hg_ln 0 c = 40 := by decide +kernel
theorem hp_ln_rd {b : Nat} (h : hg_rd b) : hg_ln 0 (b + 1) = 6 ∧ hg_ln 0 (b + 2) = 6 ∧ hg_ln 0 (b + 3) = 6 ∧ hg_ln 0 (b + 4) = 6 ∧ hg_ln 0 (b + 5) = 6 ∧ hg_ln 0 (b + 6) = 6 ∧ hg_ln 0 (b + 7) = 6 ∧ hg_ln 0 (b + 8) = 6 := by
  rcases h with rfl | rfl | rfl <;> decide +kernel
theorem hp_row {w : hg_W} {c : Nat} {k : Int} (hc : 3 ≤ c ∧ c < 9) (h0 : 0 ≤ k) (h1 : k < 160) : hg_ag 0 w c k = some (w c k.toNat) := hp_ag (hp_ln_row c hc.2 hc.1) (by decide) h0 h1
theorem hp_rowS {w : hg_W} {c : Nat} {k v : Int} (hc : 3 ≤ c ∧ c < 9) (h0 : 0 ≤ k) (h1 : k < 160) : hg_as 0 w c k v = some (hg_up w c k.toNat (wr v)) := hp_as (hp_ln_row c hc.2 hc.1) (by decide) h0 h1
theorem hp_end {w : hg_W} {c : Nat} {k : Int} (hc : 10 ≤ c ∧ c < 16) (h0 : 0 ≤ k) (h1 : k < 3) : hg_ag 0 w c k = some (w c k.toNat) := hp_ag (hp_ln_end c hc.2 hc.1) (by decide) h0 h1
theorem hp_endS {w : hg_W} {c : Nat} {k v : Int} (hc : 10 ≤ c ∧ c < 16) (h0 : 0 ≤ k) (h1 : k < 3) : hg_as 0 w c k v = some (hg_up w c k.toNat (wr v)) := hp_as (hp_ln_end c hc.2 hc.1) (by decide) h0 h1
theorem hp_sh {w : hg_W} {c : Nat} {k : Int} (hc : 50 ≤ c ∧ c < 54) (h0 : 0 ≤ k) (h1 : k < 40) : hg_ag 0 w c k = some (w c k.toNat) := hp_ag (hp_ln_sh c hc.2 hc.1) (by decide) h0 h1
theorem hp_shS {w : hg_W} {c : Nat} {k v : Int} (hc : 50 ≤ c ∧ c < 54) (h0 : 0 ≤ k) (h1 : k < 40) : hg_as 0 w c k v = some (hg_up w c k.toNat (wr v)) := hp_as (hp_ln_sh c hc.2 hc.1) (by decide) h0 h1
theorem hp_ar2 {k : Int} (h0 : 0 ≤ k) (h1 : k < 6) : hg_ar 2 k = some (3 + k.toNat) := hp_ar (c := 2) (n := 6) rfl (by decide) h0 h1
theorem hp_ar9 {k : Int} (h0 : 0 ≤ k) (h1 : k < 6) : hg_ar 9 k = some (10 + k.toNat) := hp_ar (c := 9) (n := 6) rfl (by decide) h0 h1
theorem hp_ar49 {k : Int} (h0 : 0 ≤ k) (h1 : k < 4) : hg_ar 49 k = some (50 + k.toNat) := hp_ar (c := 49) (n := 4) rfl (by decide) h0 h1
theorem ag_h16 {w : hg_W} {k : Int} (h0 : 0 ≤ k) (h1 : k < 40) : hg_ag 0 w 16 k = some (w 16 k.toNat) := hp_ag (n := 40) rfl (by decide) h0 h1
theorem as_h16 {w : hg_W} {k v : Int} (h0 : 0 ≤ k) (h1 : k < 40) : hg_as 0 w 16 k v = some (hg_up w 16 k.toNat (wr v)) := hp_as (n := 40) rfl (by decide) h0 h1
theorem ag_h18 {w : hg_W} {k : Int} (h0 : 0 ≤ k) (h1 : k < 160) : hg_ag 0 w 18 k = some (w 18 k.toNat) := hp_ag (n := 160) rfl (by decide) h0 h1
theorem as_h18 {w : hg_W} {k v : Int} (h0 : 0 ≤ k) (h1 : k < 160) : hg_as 0 w 18 k v = some (hg_up w 18 k.toNat (wr v)) := hp_as (n := 160) rfl (by decide) h0 h1
theorem ag_h47 {w : hg_W} {k : Int} (h0 : 0 ≤ k) (h1 : k < 4) : hg_ag 0 w 47 k = some (w 47 k.toNat) := hp_ag (n := 4) rfl (by decide) h0 h1
theorem as_h47 {w : hg_W} {k v : Int} (h0 : 0 ≤ k) (h1 : k < 4) : hg_as 0 w 47 k v = some (hg_up w 47 k.toNat (wr v)) := hp_as (n := 4) rfl (by decide) h0 h1
theorem ag_h48 {w : hg_W} {k : Int} (h0 : 0 ≤ k) (h1 : k < 4) : hg_ag 0 w 48 k = some (w 48 k.toNat) := hp_ag (n := 4) rfl (by decide) h0 h1
theorem as_h48 {w : hg_W} {k v : Int} (h0 : 0 ≤ k) (h1 : k < 4) : hg_as 0 w 48 k v = some (hg_up w 48 k.toNat (wr v)) := hp_as (n := 4) rfl (by decide) h0 h1
theorem ag_h54 {w : hg_W} {k : Int} (h0 : 0 ≤ k) (h1 : k < 1000) : hg_ag 0 w 54 k = some (w 54 k.toNat) := hp_ag (n := 1000) rfl (by decide) h0 h1
theorem as_h54 {w : hg_W} {k v : Int} (h0 : 0 ≤ k) (h1 : k < 1000) : hg_as 0 w 54 k v = some (hg_up w 54 k.toNat (wr v)) := hp_as (n := 1000) rfl (by decide) h0 h1
theorem ag_h55 {w : hg_W} {k : Int} (h0 : 0 ≤ k) (h1 : k < 6) : hg_ag 0 w 55 k = some (w 55 k.toNat) := hp_ag (n := 6) rfl (by decide) h0 h1
theorem as_h55 {w : hg_W} {k v : Int} (h0 : 0 ≤ k) (h1 : k < 6) : hg_as 0 w 55 k v = some (hg_up w 55 k.toNat (wr v)) := hp_as (n := 6) rfl (by decide) h0 h1
theorem ag_m1 {w : hg_W} {k : Int} (h0 : 0 ≤ k) (h1 : k < 6) : hg_ag 1 w 1 k = some (w 1 k.toNat) := hp_ag (n := 6) rfl (by decide) h0 h1
theorem as_m1 {w : hg_W} {k v : Int} (h0 : 0 ≤ k) (h1 : k < 6) : hg_as 1 w 1 k v = some (hg_up w 1 k.toNat (wr v)) := hp_as (n := 6) rfl (by decide) h0 h1
theorem ag_m2 {w : hg_W} {k : Int} (h0 : 0 ≤ k) (h1 : k < 6) : hg_ag 1 w 2 k = some (w 2 k.toNat) := hp_ag (n := 6) rfl (by decide) h0 h1
theorem as_m2 {w : hg_W} {k v : Int} (h0 : 0 ≤ k) (h1 : k < 6) : hg_as 1 w 2 k v = some (hg_up w 2 k.toNat (wr v)) := hp_as (n := 6) rfl (by decide) h0 h1
theorem ag_m3 {w : hg_W} {k : Int} (h0 : 0 ≤ k) (h1 : k < 18) : hg_ag 1 w 3 k = some (w 3 k.toNat) := hp_ag (n := 18) rfl (by decide) h0 h1
theorem as_m3 {w : hg_W} {k v : Int} (h0 : 0 ≤ k) (h1 : k < 18) : hg_as 1 w 3 k v = some (hg_up w 3 k.toNat (wr v)) := hp_as (n := 18) rfl (by decide) h0 h1
theorem ag_m4 {w : hg_W} {k : Int} (h0 : 0 ≤ k) (h1 : k < 12) : hg_ag 1 w 4 k = some (w 4 k.toNat) := hp_ag (n := 12) rfl (by decide) h0 h1
theorem as_m4 {w : hg_W} {k v : Int} (h0 : 0 ≤ k) (h1 : k < 12) : hg_as 1 w 4 k v = some (hg_up w 4 k.toNat (wr v)) := hp_as (n := 12) rfl (by decide) h0 h1
theorem ag_m5 {w : hg_W} {k : Int} (h0 : 0 ≤ k) (h1 : k < 160) : hg_ag 1 w 5 k = some (w 5 k.toNat) := hp_ag (n := 160) rfl (by decide) h0 h1
theorem as_m5 {w : hg_W} {k v : Int} (h0 : 0 ≤ k) (h1 : k < 160) : hg_as 1 w 5 k v = some (hg_up w 5 k.toNat (wr v)) := hp_as (n := 160) rfl (by decide) h0 h1
theorem ag_m6 {w : hg_W} {k : Int} (h0 : 0 ≤ k) (h1 : k < 1200) : hg_ag 1 w 6 k = some (w 6 k.toNat) := hp_ag (n := 1200) rfl (by decide) h0 h1
theorem as_m6 {w : hg_W} {k v : Int} (h0 : 0 ≤ k) (h1 : k < 1200) : hg_as 1 w 6 k v = some (hg_up w 6 k.toNat (wr v)) := hp_as (n := 1200) rfl (by decide) h0 h1
theorem ag_m7 {w : hg_W} {k : Int} (h0 : 0 ≤ k) (h1 : k < 24) : hg_ag 1 w 7 k = some (w 7 k.toNat) := hp_ag (n := 24) rfl (by decide) h0 h1
theorem as_m7 {w : hg_W} {k v : Int} (h0 : 0 ≤ k) (h1 : k < 24) : hg_as 1 w 7 k v = some (hg_up w 7 k.toNat (wr v)) := hp_as (n := 24) rfl (by decide) h0 h1
theorem ag_m8 {w : hg_W} {k : Int} (h0 : 0 ≤ k) (h1 : k < 30) : hg_ag 1 w 8 k = some (w 8 k.toNat) := hp_ag (n := 30) rfl (by decide) h0 h1
theorem as_m8 {w : hg_W} {k v : Int} (h0 : 0 ≤ k) (h1 : k < 30) : hg_as 1 w 8 k v = some (hg_up w 8 k.toNat (wr v)) := hp_as (n := 30) rfl (by decide) h0 h1
theorem ag_m9 {w : hg_W} {k : Int} (h0 : 0 ≤ k) (h1 : k < 4) : hg_ag 1 w 9 k = some (w 9 k.toNat) := hp_ag (n := 4) rfl (by decide) h0 h1
theorem as_m9 {w : hg_W} {k v : Int} (h0 : 0 ≤ k) (h1 : k < 4) : hg_as 1 w 9 k v = some (hg_up w 9 k.toNat (wr v)) := hp_as (n := 4) rfl (by decide) h0 h1
theorem ag_m10 {w : hg_W} {k : Int} (h0 : 0 ≤ k) (h1 : k < 4) : hg_ag 1 w 10 k = some (w 10 k.toNat) := hp_ag (n := 4) rfl (by decide) h0 h1
theorem as_m10 {w : hg_W} {k v : Int} (h0 : 0 ≤ k) (h1 : k < 4) : hg_as 1 w 10 k v = some (hg_up w 10 k.toNat (wr v)) := hp_as (n := 4) rfl (by decide) h0 h1
theorem ag_m11 {w : hg_W} {k : Int} (h0 : 0 ≤ k) (h1 : k < 4) : hg_ag 1 w 11 k = some (w 11 k.toNat) := hp_ag (n := 4) rfl (by decide) h0 h1
theorem as_m11 {w : hg_W} {k v : Int} (h0 : 0 ≤ k) (h1 : k < 4) : hg_as 1 w 11 k v = some (hg_up w 11 k.toNat (wr v)) := hp_as (n := 4) rfl (by decide) h0 h1
theorem ag_m12 {w : hg_W} {k : Int} (h0 : 0 ≤ k) (h1 : k < 160) : hg_ag 1 w 12 k = some (w 12 k.toNat) := hp_ag (n := 160) rfl (by decide) h0 h1
theorem as_m12 {w : hg_W} {k v : Int} (h0 : 0 ≤ k) (h1 : k < 160) : hg_as 1 w 12 k v = some (hg_up w 12 k.toNat (wr v)) := hp_as (n := 160) rfl (by decide) h0 h1
theorem ag_m13 {w : hg_W} {k : Int} (h0 : 0 ≤ k) (h1 : k < 38) : hg_ag 1 w 13 k = some (w 13 k.toNat) := hp_ag (n := 38) rfl (by decide) h0 h1
theorem as_m13 {w : hg_W} {k v : Int} (h0 : 0 ≤ k) (h1 : k < 38) : hg_as 1 w 13 k v = some (hg_up w 13 k.toNat (wr v)) := hp_as (n := 38) rfl (by decide) h0 h1
theorem ag_m14 {w : hg_W} {k : Int} (h0 : 0 ≤ k) (h1 : k < 96) : hg_ag 1 w 14 k = some (w 14 k.toNat) := hp_ag (n := 96) rfl (by decide) h0 h1
theorem as_m14 {w : hg_W} {k v : Int} (h0 : 0 ≤ k) (h1 : k < 96) : hg_as 1 w 14 k v = some (hg_up w 14 k.toNat (wr v)) := hp_as (n := 96) rfl (by decide) h0 h1
theorem ag_m15 {w : hg_W} {k : Int} (h0 : 0 ≤ k) (h1 : k < 200) : hg_ag 1 w 15 k = some (w 15 k.toNat) := hp_ag (n := 200) rfl (by decide) h0 h1
theorem as_m15 {w : hg_W} {k v : Int} (h0 : 0 ≤ k) (h1 : k < 200) : hg_as 1 w 15 k v = some (hg_up w 15 k.toNat (wr v)) := hp_as (n := 200) rfl (by decide) h0 h1
theorem ag_m16 {w : hg_W} {k : Int} (h0 : 0 ≤ k) (h1 : k < 200) : hg_ag 1 w 16 k = some (w 16 k.toNat) := hp_ag (n := 200) rfl (by decide) h0 h1
theorem as_m16 {w : hg_W} {k v : Int} (h0 : 0 ≤ k) (h1 : k < 200) : hg_as 1 w 16 k v = some (hg_up w 16 k.toNat (wr v)) := hp_as (n := 200) rfl (by decide) h0 h1
theorem ag_m17 {w : hg_W} {k : Int} (h0 : 0 ≤ k) (h1 : k < 6) : hg_ag 1 w 17 k = some (w 17 k.toNat) := hp_ag (n := 6) rfl (by decide) h0 h1
theorem as_m17 {w : hg_W} {k v : Int} (h0 : 0 ≤ k) (h1 : k < 6) : hg_as 1 w 17 k v = some (hg_up w 17 k.toNat (wr v)) := hp_as (n := 6) rfl (by decide) h0 h1
theorem ag_m18 {w : hg_W} {k : Int} (h0 : 0 ≤ k) (h1 : k < 32) : hg_ag 1 w 18 k = some (w 18 k.toNat) := hp_ag (n := 32) rfl (by decide) h0 h1
theorem as_m18 {w : hg_W} {k v : Int} (h0 : 0 ≤ k) (h1 : k < 32) : hg_as 1 w 18 k v = some (hg_up w 18 k.toNat (wr v)) := hp_as (n := 32) rfl (by decide) h0 h1
theorem ag_m19 {w : hg_W} {k : Int} (h0 : 0 ≤ k) (h1 : k < 6) : hg_ag 1 w 19 k = some (w 19 k.toNat) := hp_ag (n := 6) rfl (by decide) h0 h1
theorem as_m19 {w : hg_W} {k v : Int} (h0 : 0 ≤ k) (h1 : k < 6) : hg_as 1 w 19 k v = some (hg_up w 19 k.toNat (wr v)) := hp_as (n := 6) rfl (by decide) h0 h1
theorem ag_m20 {w : hg_W} {k : Int} (h0 : 0 ≤ k) (h1 : k < 1000) : hg_ag 1 w 20 k = some (w 20 k.toNat) := hp_ag (n := 1000) rfl (by decide) h0 h1
theorem as_m20 {w : hg_W} {k v : Int} (h0 : 0 ≤ k) (h1 : k < 1000) : hg_as 1 w 20 k v = some (hg_up w 20 k.toNat (wr v)) := hp_as (n := 1000) rfl (by decide) h0 h1
theorem ag_m21 {w : hg_W} {k : Int} (h0 : 0 ≤ k) (h1 : k < 1000) : hg_ag 1 w 21 k = some (w 21 k.toNat) := hp_ag (n := 1000) rfl (by decide) h0 h1
theorem as_m21 {w : hg_W} {k v : Int} (h0 : 0 ≤ k) (h1 : k < 1000) : hg_as 1 w 21 k v = some (hg_up w 21 k.toNat (wr v)) := hp_as (n := 1000) rfl (by decide) h0 h1
theorem ag_r1 {b : Nat} (hb : hg_rd b) {w : hg_W} {k : Int} (h0 : 0 ≤ k) (h1 : k < 6) : hg_ag 0 w (b + 1) k = some (w (b + 1) k.toNat) := hp_ag (n := 6) (hp_ln_rd hb).1 (by decide) h0 h1
theorem as_r1 {b : Nat} (hb : hg_rd b) {w : hg_W} {k v : Int} (h0 : 0 ≤ k) (h1 : k < 6) : hg_as 0 w (b + 1) k v = some (hg_up w (b + 1) k.toNat (wr v)) := hp_as (n := 6) (hp_ln_rd hb).1 (by decide) h0 h1
theorem ag_r2 {b : Nat} (hb : hg_rd b) {w : hg_W} {k : Int} (h0 : 0 ≤ k) (h1 : k < 6) : hg_ag 0 w (b + 2) k = some (w (b + 2) k.toNat) := hp_ag (n := 6) (hp_ln_rd hb).2.1 (by decide) h0 h1
theorem as_r2 {b : Nat} (hb : hg_rd b) {w : hg_W} {k v : Int} (h0 : 0 ≤ k) (h1 : k < 6) : hg_as 0 w (b + 2) k v = some (hg_up w (b + 2) k.toNat (wr v)) := hp_as (n := 6) (hp_ln_rd hb).2.1 (by decide) h0 h1
theorem ag_r3 {b : Nat} (hb : hg_rd b) {w : hg_W} {k : Int} (h0 : 0 ≤ k) (h1 : k < 6) : hg_ag 0 w (b + 3) k = some (w (b + 3) k.toNat) := hp_ag (n := 6) (hp_ln_rd hb).2.2.1 (by decide) h0 h1
theorem as_r3 {b : Nat} (hb : hg_rd b) {w : hg_W} {k v : Int} (h0 : 0 ≤ k) (h1 : k < 6) : hg_as 0 w (b + 3) k v = some (hg_up w (b + 3) k.toNat (wr v)) := hp_as (n := 6) (hp_ln_rd hb).2.2.1 (by decide) h0 h1
theorem ag_r4 {b : Nat} (hb : hg_rd b) {w : hg_W} {k : Int} (h0 : 0 ≤ k) (h1 : k < 6) : hg_ag 0 w (b + 4) k = some (w (b + 4) k.toNat) := hp_ag (n := 6) (hp_ln_rd hb).2.2.2.1 (by decide) h0 h1
theorem as_r4 {b : Nat} (hb : hg_rd b) {w : hg_W} {k v : Int} (h0 : 0 ≤ k) (h1 : k < 6) : hg_as 0 w (b + 4) k v = some (hg_up w (b + 4) k.toNat (wr v)) := hp_as (n := 6) (hp_ln_rd hb).2.2.2.1 (by decide) h0 h1
theorem ag_r5 {b : Nat} (hb : hg_rd b) {w : hg_W} {k : Int} (h0 : 0 ≤ k) (h1 : k < 6) : hg_ag 0 w (b + 5) k = some (w (b + 5) k.toNat) := hp_ag (n := 6) (hp_ln_rd hb).2.2.2.2.1 (by decide) h0 h1
theorem as_r5 {b : Nat} (hb : hg_rd b) {w : hg_W} {k v : Int} (h0 : 0 ≤ k) (h1 : k < 6) : hg_as 0 w (b + 5) k v = some (hg_up w (b + 5) k.toNat (wr v)) := hp_as (n := 6) (hp_ln_rd hb).2.2.2.2.1 (by decide) h0 h1
theorem ag_r6 {b : Nat} (hb : hg_rd b) {w : hg_W} {k : Int} (h0 : 0 ≤ k) (h1 : k < 6) : hg_ag 0 w (b + 6) k = some (w (b + 6) k.toNat) := hp_ag (n := 6) (hp_ln_rd hb).2.2.2.2.2.1 (by decide) h0 h1
theorem as_r6 {b : Nat} (hb : hg_rd b) {w : hg_W} {k v : Int} (h0 : 0 ≤ k) (h1 : k < 6) : hg_as 0 w (b + 6) k v = some (hg_up w (b + 6) k.toNat (wr v)) := hp_as (n := 6) (hp_ln_rd hb).2.2.2.2.2.1 (by decide) h0 h1
theorem ag_r7 {b : Nat} (hb : hg_rd b) {w : hg_W} {k : Int} (h0 : 0 ≤ k) (h1 : k < 6) : hg_ag 0 w (b + 7) k = some (w (b + 7) k.toNat) := hp_ag (n := 6) (hp_ln_rd hb).2.2.2.2.2.2.1 (by decide) h0 h1
theorem as_r7 {b : Nat} (hb : hg_rd b) {w : hg_W} {k v : Int} (h0 : 0 ≤ k) (h1 : k < 6) : hg_as 0 w (b + 7) k v = some (hg_up w (b + 7) k.toNat (wr v)) := hp_as (n := 6) (hp_ln_rd hb).2.2.2.2.2.2.1 (by decide) h0 h1
theorem ag_r8 {b : Nat} (hb : hg_rd b) {w : hg_W} {k : Int} (h0 : 0 ≤ k) (h1 : k < 6) : hg_ag 0 w (b + 8) k = some (w (b + 8) k.toNat) := hp_ag (n := 6) (hp_ln_rd hb).2.2.2.2.2.2.2 (by decide) h0 h1
theorem as_r8 {b : Nat} (hb : hg_rd b) {w : hg_W} {k v : Int} (h0 : 0 ≤ k) (h1 : k < 6) : hg_as 0 w (b + 8) k v = some (hg_up w (b + 8) k.toNat (wr v)) := hp_as (n := 6) (hp_ln_rd hb).2.2.2.2.2.2.2 (by decide) h0 h1
theorem wr_nat {n : Nat} (h : n < 2147483648) : wr (n : Int) = (n : Int) := wr_id (by omega) (by omega)
theorem hp_up_eq {w : hg_W} {c k : Nat} {v : Int} : hg_up w c k v c k = v := by simp [hg_up]
theorem hp_up_c {w : hg_W} {c k c' k' : Nat} {v : Int} (h : c' ≠ c) : hg_up w c k v c' k' = w c' k' := by simp [hg_up, h]
theorem hp_up_k {w : hg_W} {c k c' k' : Nat} {v : Int} (h : k' ≠ k) : hg_up w c k v c' k' = w c' k' := by simp [hg_up, h]
