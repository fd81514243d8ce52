/-! ===== the abstract state ===== -/
/-- numbers (0 proxies, 1 the limit of ranges, 2 M, 3 refused, 4 overflows, 5 lost, 6 evicted), parents, homes, written, causes, known, lines (p: contents of p, 8 + c: up queue of c, 16 + c: down queue of c) -/
abbrev TT : Type := (Nat → Nat) × (Nat → Nat) × (Nat → Nat) × (Nat → Nat) × (Nat → Nat) × (Nat → Nat → Bool) × (Nat → List Nat)
abbrev tt_nu (T : TT) : Nat → Nat := T.1
abbrev tt_pa (T : TT) : Nat → Nat := T.2.1
abbrev tt_ho (T : TT) : Nat → Nat := T.2.2.1
abbrev tt_wr (T : TT) : Nat → Nat := T.2.2.2.1
abbrev tt_ca (T : TT) : Nat → Nat := T.2.2.2.2.1
abbrev tt_kn (T : TT) : Nat → Nat → Bool := T.2.2.2.2.2.1
abbrev tt_li (T : TT) : Nat → List Nat := T.2.2.2.2.2.2
abbrev ts_nu (T : TT) (f : Nat → Nat) : TT := (f, T.2)
abbrev ts_pa (T : TT) (f : Nat → Nat) : TT := (T.1, f, T.2.2)
abbrev ts_ho (T : TT) (f : Nat → Nat) : TT := (T.1, T.2.1, f, T.2.2.2)
abbrev ts_wr (T : TT) (f : Nat → Nat) : TT := (T.1, T.2.1, T.2.2.1, f, T.2.2.2.2)
abbrev ts_ca (T : TT) (f : Nat → Nat) : TT := (T.1, T.2.1, T.2.2.1, T.2.2.2.1, f, T.2.2.2.2.2)
abbrev ts_kn (T : TT) (f : Nat → Nat → Bool) : TT := (T.1, T.2.1, T.2.2.1, T.2.2.2.1, T.2.2.2.2.1, f, T.2.2.2.2.2.2)
abbrev ts_li (T : TT) (f : Nat → List Nat) : TT := (T.1, T.2.1, T.2.2.1, T.2.2.2.1, T.2.2.2.2.1, T.2.2.2.2.2.1, f)
/-- a list in a row of ints and a size -/
def RLn (sz : Int32) (row : Nat → Int32) (l : List Nat) : Prop := sz = nI l.length ∧ ∀ k x, l[k]? = some x → row k = nI x
/-- the first n versions of a set as bits -/
def bits (f : Nat → Bool) : Nat → Nat
  | 0 => 0
  | n + 1 => bits f n + (if f (n + 1) then 2 ^ n else 0)
/-- the state z of the class's world is T -/
def RepC (z : Nat) (T : TT) (w : Wd) : Prop :=
  (∀ j, j < 7 → w (59 * z + 50) j = nI (tt_nu T j)) ∧ (∀ p, p < 8 → w (59 * z + 51) p = nI (tt_pa T p)) ∧ (∀ o, o < 4 → w (59 * z + 52) o = nI (tt_ho T o)) ∧ (∀ o, o < 4 → w (59 * z + 53) o = nI (tt_wr T o)) ∧ (∀ j, j < 32 → w (59 * z + 54) j = nI (bits (tt_kn T j) 24)) ∧ (∀ j, j < 384 → w (59 * z + 55) j = nI (tt_ca T j)) ∧ ∀ i, i < 24 → RLn (w (59 * z + 2 * i) 1) (w (59 * z + 2 * i + 1)) (tt_li T i)
/-- what always holds -/
def upOk (wr : Nat → Nat) (u : Nat) : Prop := ∃ o v, u = 100 * o + v ∧ o < 4 ∧ 1 ≤ v ∧ v ≤ wr o
def InvT (T : TT) : Prop :=
  (1 ≤ tt_nu T 0 ∧ tt_nu T 0 ≤ 8) ∧ tt_nu T 1 ≤ 8 ∧ (1 ≤ tt_nu T 2 ∧ tt_nu T 2 ≤ 12) ∧ (tt_pa T 0 = 0 ∧ ∀ p, 1 ≤ p → p < 8 → tt_pa T p < p) ∧ (∀ o, o < 4 → tt_ho T o < tt_nu T 0) ∧ (∀ o, o < 4 → tt_wr T o ≤ 24) ∧ (∀ j, j < 384 → tt_ca T j ≤ 24) ∧ (∀ o v, o < 4 → 1 ≤ v → v ≤ tt_wr T o → tt_ca T (96 * o + 4 * (v - 1) + o) = v - 1 ∧ ∀ f, f < 4 → tt_ca T (96 * o + 4 * (v - 1) + f) ≤ tt_wr T f) ∧ (∀ p o v, p < 8 → o < 4 → tt_kn T (4 * p + o) v = true → 1 ≤ v ∧ v ≤ tt_wr T o) ∧ (∀ i u, i < 24 → u ∈ tt_li T i → upOk (tt_wr T) u) ∧ (∀ i, i < 24 → 8 ≤ i → (tt_li T i).length ≤ 12) ∧ (∀ i, 1 ≤ i → i < 8 → (tt_li T i).length ≤ 12) ∧ (tt_li T 0).length = fb_ct (fun j => tt_kn T (j / 24) (j % 24 + 1)) 96
/-- the part of it that holds also in the middle of a step -/
def InvB (T : TT) : Prop := (1 ≤ tt_nu T 0 ∧ tt_nu T 0 ≤ 8) ∧ tt_nu T 1 ≤ 8 ∧ tt_nu T 2 ≤ 12 ∧ (∀ p, p < 8 → tt_pa T p < 8) ∧ ∀ j, j < 384 → tt_ca T j ≤ 24
theorem InvT.B {T : TT} (I : InvT T) : InvB T := ⟨I.1, I.2.1, I.2.2.1.2, fun p hp => by
  rcases Nat.eq_zero_or_pos p with e | e
  · rw [e, I.2.2.2.1.1]; omega
  · have := I.2.2.2.1.2 p e hp; omega, I.2.2.2.2.2.2.1⟩
