/-! ===== the law's rows ===== -/
def lu (u : Nat) : Nat := 16 * (u / 100) + u % 100
def cpk (T : TT) (j : Nat) : Nat := tt_ca T j + 32 * tt_ca T (j + 1) + 1024 * tt_ca T (j + 2) + 32768 * tt_ca T (j + 3)
/-- a list in a row at b: its length, then its updates as the law writes them -/
def RLr (row : Nat → Int32) (b : Nat) (l : List Nat) : Prop := row b = nI l.length ∧ ∀ k x, l[k]? = some x → row (b + 1 + k) = nI (lu x)
def RepL (T : TT) (w : Wd) : Prop :=
  (∀ j, j < 7 → w 490 j = nI (tt_nu T j)) ∧ (∀ p, p < 8 → w 490 (8 + p) = nI (tt_pa T p)) ∧ (∀ o, o < 4 → w 490 (16 + o) = nI (tt_ho T o)) ∧ (∀ o, o < 4 → w 490 (20 + o) = nI (tt_wr T o)) ∧ (∀ j, j < 32 → w 491 j = nI (2 * bits (tt_kn T j) 12)) ∧ (∀ o v, o < 4 → 1 ≤ v → v ≤ tt_wr T o → w 492 (12 * o + (v - 1)) = nI (cpk T (96 * o + 4 * (v - 1)))) ∧ (∀ c, 1 ≤ c → c < 5 → RLr (w 493) (13 * (c - 1)) (tt_li T (8 + c)) ∧ RLr (w 494) (13 * (c - 1)) (tt_li T (16 + c)) ∧ RLr (w 495) (13 * (c - 1)) (tt_li T c)) ∧ RLr (w 496) 0 (tt_li T 0)
/-- small runs -/
def Sml (T : TT) : Prop := (∀ o, o < 4 → tt_wr T o ≤ 12) ∧ (∀ p o v, p < 8 → o < 4 → tt_kn T (4 * p + o) v = true → 1 ≤ v ∧ v ≤ tt_wr T o) ∧ ∀ j, j < 384 → tt_ca T j ≤ 24
/-- what a step of the law leaves: the class's cells, the rows made since, and its mark -/
def LFr (N : Nat) (w w' : Wd) : Prop := ∀ k j, k < 490 ∨ 497 ≤ k ∧ k < N ∨ k = 490 ∧ j = 7 → w' k j = w k j
theorem LFr.rf {N : Nat} {w : Wd} : LFr N w w := fun _ _ _ => rfl
theorem LFr.tr {N : Nat} {w w1 w2 : Wd} (h : LFr N w w1) (g : LFr N w1 w2) : LFr N w w2 := fun k j hk => (g k j hk).trans (h k j hk)
theorem LFr.set {N k j : Nat} {w : Wd} {x : Int32} (h1 : 490 ≤ k) (h2 : k < 497 ∨ N ≤ k) (h3 : k ≠ 490 ∨ j ≠ 7) : LFr N w (wset w k j x) := fun a i ha => by
  by_cases e : a = k
  · subst e; rw [wset_same, upd_n (by omega)]
  · rw [wset_ne e]
theorem LFr.up {N k : Nat} {w : Wd} (hk : N ≤ k) (h : 497 ≤ N) : LFr N w (va_up w k (fun _ => 0)) := fun a i ha => by rw [up_n (by omega)]
theorem LFr.le {N M : Nat} {w w' : Wd} (h : LFr N w w') (hm : M ≤ N) : LFr M w w' := fun k j hk => h k j (by omega)
theorem LFr.ne {N q : Nat} {w w' : Wd} (h : ∀ a, a ≠ q → w' a = w a) (h1 : 491 ≤ q) (h2 : q < 497 ∨ N ≤ q) : LFr N w w' := fun k j hk => by rw [h k (by omega)]
theorem LFr.ne2 {N q r : Nat} {w w' : Wd} (h : ∀ a, a ≠ q → a ≠ r → w' a = w a) (h1 : 491 ≤ q) (h2 : q < 497 ∨ N ≤ q) (h3 : 491 ≤ r) (h4 : r < 497 ∨ N ≤ r) : LFr N w w' := fun k j hk => by rw [h k (by omega) (by omega)]
theorem LFr.row {N k : Nat} {w w' : Wd} (h : LFr N w w') (hk : k < 490 ∨ 497 ≤ k ∧ k < N) : w' k = w k := funext fun j => h k j (by omega)
theorem LFr.m7 {N : Nat} {w w' : Wd} (h : LFr N w w') : w' 490 7 = w 490 7 := h 490 7 (by omega)
section LREP
variable {T : TT} {w w' : Wd}
theorem rl_nu (h : RepL T w) {j : Nat} (hj : j < 7) : w 490 j = nI (tt_nu T j) := h.1 j hj
theorem rl_pa (h : RepL T w) {p : Nat} (hp : p < 8) : w 490 (8 + p) = nI (tt_pa T p) := h.2.1 p hp
theorem rl_ho (h : RepL T w) {o : Nat} (ho : o < 4) : w 490 (16 + o) = nI (tt_ho T o) := h.2.2.1 o ho
theorem rl_wr (h : RepL T w) {o : Nat} (ho : o < 4) : w 490 (20 + o) = nI (tt_wr T o) := h.2.2.2.1 o ho
theorem rl_kn (h : RepL T w) {j : Nat} (hj : j < 32) : w 491 j = nI (2 * bits (tt_kn T j) 12) := h.2.2.2.2.1 j hj
theorem rl_ca (h : RepL T w) {o v : Nat} (ho : o < 4) (h1 : 1 ≤ v) (hv : v ≤ tt_wr T o) : w 492 (12 * o + (v - 1)) = nI (cpk T (96 * o + 4 * (v - 1))) := h.2.2.2.2.2.1 o v ho h1 hv
theorem rl_up (h : RepL T w) {c : Nat} (h1 : 1 ≤ c) (hc : c < 5) : RLr (w 493) (13 * (c - 1)) (tt_li T (8 + c)) := (h.2.2.2.2.2.2.1 c h1 hc).1
theorem rl_dn (h : RepL T w) {c : Nat} (h1 : 1 ≤ c) (hc : c < 5) : RLr (w 494) (13 * (c - 1)) (tt_li T (16 + c)) := (h.2.2.2.2.2.2.1 c h1 hc).2.1
theorem rl_ke (h : RepL T w) {c : Nat} (h1 : 1 ≤ c) (hc : c < 5) : RLr (w 495) (13 * (c - 1)) (tt_li T c) := (h.2.2.2.2.2.2.1 c h1 hc).2.2
theorem rl_ro (h : RepL T w) : RLr (w 496) 0 (tt_li T 0) := h.2.2.2.2.2.2.2
theorem rl_fr (h : RepL T w) (hf : ∀ k, 490 ≤ k → k < 497 → w' k = w k) : RepL T w' := by
  unfold RepL
  rw [hf 490 (by omega) (by omega), hf 491 (by omega) (by omega), hf 492 (by omega) (by omega), hf 493 (by omega) (by omega), hf 494 (by omega) (by omega), hf 495 (by omega) (by omega), hf 496 (by omega) (by omega)]
  exact h
theorem fc_fr {S : ST} (h : FC S w) (hf : ∀ k, k < 490 → w' k = w k) : FC S w' := by
  obtain ⟨h1, h2, h3, h4, h5, h6⟩ := h
  refine ⟨rc_frame (by omega) h1 (fun k hk => hf k (by omega)), h2, hist_frame h3 (fun k _ hk => hf k (by omega)), ?_, h5, h6⟩
  rw [hf 482 (by omega), hf 483 (by omega)]
  exact h4
theorem wj_lo {w1 w : Wd} {k : Nat} (h : k < 490) : wj w1 w k = w1 k := if_pos h
theorem wj_hi {w1 w : Wd} {k : Nat} (h : 490 ≤ k) : wj w1 w k = w k := if_neg (by omega)
theorem fc_wj {S : ST} {w1 : Wd} (h : FC S w1) : FC S (wj w1 w) := fc_fr h (fun _ hk => wj_lo hk)
theorem rl_wj {w1 : Wd} (h : RepL T w) : RepL T (wj w1 w) := rl_fr h (fun _ hk _ => wj_hi hk)
theorem sml_pfx (S : Sml T) {p o : Nat} (hp : p < 8) (ho : o < 4) : pfx T p o ≤ tt_wr T o := by
  have h := pfx_ini T p o
  rcases Nat.eq_zero_or_pos (pfx T p o) with e | e
  · omega
  · exact (S.2.1 p o _ hp ho (pre_in (f := tt_kn T (4 * p + o)) (v := pfx T p o) e h)).2
theorem sml_12 (S : Sml T) {p o : Nat} (hp : p < 8) (ho : o < 4) : pfx T p o ≤ 12 := Nat.le_trans (sml_pfx S hp ho) (S.1 o ho)
end LREP
theorem bits_12 (f : Nat → Bool) : bits f 12 < 4096 := bits_lt f 12
theorem kb_tb (f : Nat → Bool) {v : Nat} (h1 : 1 ≤ v) (hv : v ≤ 12) : (2 * bits f 12).testBit v = f v := by
  obtain ⟨k, rfl⟩ : ∃ k, v = k + 1 := ⟨v - 1, by omega⟩
  rw [Nat.testBit_succ, Nat.mul_div_cancel_left _ (by omega), bits_tb, decide_eq_true (by omega), Bool.true_and]
theorem z_kb (f : Nat → Bool) {v : Nat} (h1 : 1 ≤ v) (hv : v ≤ 12) : ((nI (2 * bits f 12) >>> (nI v &&& 31)) &&& nI 1 = nI 1) = (f v = true) := by
  have hb := bits_12 f
  rw [z_bit (by omega) (by omega), kb_tb f h1 hv]
  by_cases c : f v = true
  · rw [if_pos c, c]; exact propext ⟨fun _ => rfl, fun _ => rfl⟩
  · rw [if_neg c]; exact propext ⟨fun h => absurd h (by decide), fun h => absurd h c⟩
section CPK
variable {T : TT} {j : Nat}
theorem cpk_lt (h0 : tt_ca T j < 32) (h1 : tt_ca T (j + 1) < 32) (h2 : tt_ca T (j + 2) < 32) (h3 : tt_ca T (j + 3) < 32) : cpk T j < 1048576 := by unfold cpk; omega
theorem z_c0 (h0 : tt_ca T j < 32) (h1 : tt_ca T (j + 1) < 32) (h2 : tt_ca T (j + 2) < 32) (h3 : tt_ca T (j + 3) < 32) : nI (cpk T j) &&& nI 31 = nI (tt_ca T j) := by
  have hb := cpk_lt h0 h1 h2 h3
  rw [pk_andN (by omega) 5 (by decide)]
  congr 1
  unfold cpk
  omega
theorem z_c1 (h0 : tt_ca T j < 32) (h1 : tt_ca T (j + 1) < 32) (h2 : tt_ca T (j + 2) < 32) (h3 : tt_ca T (j + 3) < 32) : (nI (cpk T j) >>> (nI 5 &&& 31)) &&& nI 31 = nI (tt_ca T (j + 1)) := by
  have hb := cpk_lt h0 h1 h2 h3
  rw [z_shr (by omega) (by omega), pk_andN (by omega) 5 (by decide)]
  congr 1
  unfold cpk
  omega
theorem z_c2 (h0 : tt_ca T j < 32) (h1 : tt_ca T (j + 1) < 32) (h2 : tt_ca T (j + 2) < 32) (h3 : tt_ca T (j + 3) < 32) : (nI (cpk T j) >>> (nI 10 &&& 31)) &&& nI 31 = nI (tt_ca T (j + 2)) := by
  have hb := cpk_lt h0 h1 h2 h3
  rw [z_shr (by omega) (by omega), pk_andN (by omega) 5 (by decide)]
  congr 1
  unfold cpk
  omega
theorem z_c3 (h0 : tt_ca T j < 32) (h1 : tt_ca T (j + 1) < 32) (h2 : tt_ca T (j + 2) < 32) (h3 : tt_ca T (j + 3) < 32) : (nI (cpk T j) >>> (nI 15 &&& 31)) &&& nI 31 = nI (tt_ca T (j + 3)) := by
  have hb := cpk_lt h0 h1 h2 h3
  rw [z_shr (by omega) (by omega), pk_andN (by omega) 5 (by decide)]
  congr 1
  unfold cpk
  omega
end CPK
