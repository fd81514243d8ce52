/-! ===== the reference's row of numbers ===== -/
def qb (i : Nat) : Nat := if i < 16 then 1215 + 26 * (i - 8) else 1228 + 26 * (i - 16)
def RepR (T : TT) (r : Nat → Int32) : Prop :=
  (∀ j, j < 7 → r j = nI (tt_nu T j)) ∧ r 7 = -9 ∧ (∀ p, 1 ≤ p → p < 8 → r (7 + p) = nI (tt_pa T p)) ∧ (∀ o, o < 4 → r (15 + o) = nI (tt_ho T o)) ∧ (∀ o, o < 4 → r (19 + o) = nI (tt_wr T o)) ∧ (∀ j, j < 384 → r (23 + j) = nI (tt_ca T j)) ∧ (∀ j, j < 32 → r (407 + j) = nI (2 * bits (tt_kn T j) 24)) ∧ (∀ p, p < 8 → RLn (r (439 + p)) (fun k => r (447 + 96 * p + k)) (tt_li T p) ∧ (tt_li T p).length ≤ 96) ∧ ∀ i, 8 ≤ i → i < 24 → RLn (r (qb i)) (fun k => r (qb i + 1 + k)) (tt_li T i) ∧ (tt_li T i).length ≤ 12
theorem rl_cong {sz sz' : Int32} {row row' : Nat → Int32} {l : List Nat} (h : RLn sz row l) (e : sz' = sz) (f : ∀ k, k < l.length → row' k = row k) : RLn sz' row' l := by
  refine ⟨by rw [e]; exact h.1, fun k x hx => ?_⟩
  rw [f k (List.getElem?_eq_some_iff.mp hx).1]
  exact h.2 k x hx
theorem qb_ge {i : Nat} : 1215 ≤ qb i := by unfold qb; split <;> omega
theorem qb_lt {i : Nat} (h : i < 24) (h8 : 8 ≤ i) : qb i + 13 ≤ 1423 := by unfold qb; split <;> omega
theorem qb_dis {i j : Nat} (h : i < 24) (h8 : 8 ≤ i) (g : j < 24) (g8 : 8 ≤ j) (ne : i ≠ j) : qb i + 13 ≤ qb j ∨ qb j + 13 ≤ qb i := by unfold qb; split <;> split <;> omega
section REF
variable {T : TT} {r r' : Nat → Int32}
theorem rr_nu (h : RepR T r) {j : Nat} (hj : j < 7) : r j = nI (tt_nu T j) := h.1 j hj
theorem rr_pa (h : RepR T r) {p : Nat} (h1 : 1 ≤ p) (hp : p < 8) : r (7 + p) = nI (tt_pa T p) := h.2.2.1 p h1 hp
theorem rr_ho (h : RepR T r) {o : Nat} (ho : o < 4) : r (15 + o) = nI (tt_ho T o) := h.2.2.2.1 o ho
theorem rr_wr (h : RepR T r) {o : Nat} (ho : o < 4) : r (19 + o) = nI (tt_wr T o) := h.2.2.2.2.1 o ho
theorem rr_ca (h : RepR T r) {j : Nat} (hj : j < 384) : r (23 + j) = nI (tt_ca T j) := h.2.2.2.2.2.1 j hj
theorem rr_kn (h : RepR T r) {j : Nat} (hj : j < 32) : r (407 + j) = nI (2 * bits (tt_kn T j) 24) := h.2.2.2.2.2.2.1 j hj
theorem rr_co (h : RepR T r) {p : Nat} (hp : p < 8) : RLn (r (439 + p)) (fun k => r (447 + 96 * p + k)) (tt_li T p) := (h.2.2.2.2.2.2.2.1 p hp).1
theorem rr_col (h : RepR T r) {p : Nat} (hp : p < 8) : (tt_li T p).length ≤ 96 := (h.2.2.2.2.2.2.2.1 p hp).2
theorem rr_q (h : RepR T r) {i : Nat} (h8 : 8 ≤ i) (hi : i < 24) : RLn (r (qb i)) (fun k => r (qb i + 1 + k)) (tt_li T i) := (h.2.2.2.2.2.2.2.2 i h8 hi).1
theorem rr_ql (h : RepR T r) {i : Nat} (h8 : 8 ≤ i) (hi : i < 24) : (tt_li T i).length ≤ 12 := (h.2.2.2.2.2.2.2.2 i h8 hi).2
/-- the parts of r' that stay when only some places change -/
theorem rr_lines (h : RepR T r) (f : ∀ j, 439 ≤ j → r' j = r j) : (∀ p, p < 8 → RLn (r' (439 + p)) (fun k => r' (447 + 96 * p + k)) (tt_li T p) ∧ (tt_li T p).length ≤ 96) ∧ ∀ i, 8 ≤ i → i < 24 → RLn (r' (qb i)) (fun k => r' (qb i + 1 + k)) (tt_li T i) ∧ (tt_li T i).length ≤ 12 := by
  refine ⟨fun p hp => ⟨rl_cong (rr_co h hp) (f _ (by omega)) (fun k _ => f _ (by omega)), rr_col h hp⟩, fun i h8 hi => ?_⟩
  have := qb_ge (i := i)
  exact ⟨rl_cong (rr_q h h8 hi) (f _ (by omega)) (fun k _ => f _ (by omega)), rr_ql h h8 hi⟩
theorem rr_cong (h : RepR T r) (f : ∀ j, j < 1423 → r' j = r j) : RepR T r' := by
  obtain ⟨h1, h2, h3, h4, h5, h6, h7, h8, h9⟩ := h
  refine ⟨fun j hj => by rw [f _ (by omega)]; exact h1 j hj, by rw [f _ (by omega)]; exact h2, fun p p1 hp => by rw [f _ (by omega)]; exact h3 p p1 hp, fun o ho => by rw [f _ (by omega)]; exact h4 o ho, fun o ho => by rw [f _ (by omega)]; exact h5 o ho, fun j hj => by rw [f _ (by omega)]; exact h6 j hj, fun j hj => by rw [f _ (by omega)]; exact h7 j hj, fun p hp => ⟨rl_cong (h8 p hp).1 (f _ (by omega)) (fun k hk => f _ (by have := (h8 p hp).2; omega)), (h8 p hp).2⟩, fun i i8 hi => ?_⟩
  have q1 := qb_lt hi i8
  have q2 := (h9 i i8 hi).2
  exact ⟨rl_cong (h9 i i8 hi).1 (f _ (by omega)) (fun k hk => f _ (by omega)), q2⟩
theorem rr_set_nu (h : RepR T r) {j : Nat} (hj : j < 7) (n : Nat) : RepR (ts_nu T (va_up (tt_nu T) j n)) (upd r j (nI n)) := by
  have l := rr_lines h (r' := upd r j (nI n)) (fun i hi => upd_n (by omega))
  obtain ⟨h1, h2, h3, h4, h5, h6, h7, -, -⟩ := h
  refine ⟨fun i hi => ?_, by rw [upd_n (by omega)]; exact h2, fun p p1 hp => by rw [upd_n (by omega)]; exact h3 p p1 hp, fun o ho => by rw [upd_n (by omega)]; exact h4 o ho, fun o ho => by rw [upd_n (by omega)]; exact h5 o ho, fun i hi => by rw [upd_n (by omega)]; exact h6 i hi, fun i hi => by rw [upd_n (by omega)]; exact h7 i hi, l⟩
  show upd r j (nI n) i = nI (va_up (tt_nu T) j n i)
  by_cases e : i = j
  · subst e; rw [upd_s, up_s]
  · rw [upd_n e, up_n e]; exact h1 i hi
theorem rr_set_pa (h : RepR T r) {p : Nat} (p1 : 1 ≤ p) (hp : p < 8) (n : Nat) : RepR (ts_pa T (va_up (tt_pa T) p n)) (upd r (7 + p) (nI n)) := by
  have l := rr_lines h (r' := upd r (7 + p) (nI n)) (fun i hi => upd_n (by omega))
  obtain ⟨h1, h2, h3, h4, h5, h6, h7, -, -⟩ := h
  refine ⟨fun i hi => by rw [upd_n (by omega)]; exact h1 i hi, by rw [upd_n (by omega)]; exact h2, fun q q1 hq => ?_, fun o ho => by rw [upd_n (by omega)]; exact h4 o ho, fun o ho => by rw [upd_n (by omega)]; exact h5 o ho, fun i hi => by rw [upd_n (by omega)]; exact h6 i hi, fun i hi => by rw [upd_n (by omega)]; exact h7 i hi, l⟩
  show upd r (7 + p) (nI n) (7 + q) = nI (va_up (tt_pa T) p n q)
  by_cases e : q = p
  · subst e; rw [upd_s, up_s]
  · rw [upd_n (by omega), up_n e]; exact h3 q q1 hq
theorem rr_set_ho (h : RepR T r) {p : Nat} (hp : p < 4) (n : Nat) : RepR (ts_ho T (va_up (tt_ho T) p n)) (upd r (15 + p) (nI n)) := by
  have l := rr_lines h (r' := upd r (15 + p) (nI n)) (fun i hi => upd_n (by omega))
  obtain ⟨h1, h2, h3, h4, h5, h6, h7, -, -⟩ := h
  refine ⟨fun i hi => by rw [upd_n (by omega)]; exact h1 i hi, by rw [upd_n (by omega)]; exact h2, fun q q1 hq => by rw [upd_n (by omega)]; exact h3 q q1 hq, fun o ho => ?_, fun o ho => by rw [upd_n (by omega)]; exact h5 o ho, fun i hi => by rw [upd_n (by omega)]; exact h6 i hi, fun i hi => by rw [upd_n (by omega)]; exact h7 i hi, l⟩
  show upd r (15 + p) (nI n) (15 + o) = nI (va_up (tt_ho T) p n o)
  by_cases e : o = p
  · subst e; rw [upd_s, up_s]
  · rw [upd_n (by omega), up_n e]; exact h4 o ho
theorem rr_set_wr (h : RepR T r) {p : Nat} (hp : p < 4) (n : Nat) : RepR (ts_wr T (va_up (tt_wr T) p n)) (upd r (19 + p) (nI n)) := by
  have l := rr_lines h (r' := upd r (19 + p) (nI n)) (fun i hi => upd_n (by omega))
  obtain ⟨h1, h2, h3, h4, h5, h6, h7, -, -⟩ := h
  refine ⟨fun i hi => by rw [upd_n (by omega)]; exact h1 i hi, by rw [upd_n (by omega)]; exact h2, fun q q1 hq => by rw [upd_n (by omega)]; exact h3 q q1 hq, fun o ho => by rw [upd_n (by omega)]; exact h4 o ho, fun o ho => ?_, fun i hi => by rw [upd_n (by omega)]; exact h6 i hi, fun i hi => by rw [upd_n (by omega)]; exact h7 i hi, l⟩
  show upd r (19 + p) (nI n) (19 + o) = nI (va_up (tt_wr T) p n o)
  by_cases e : o = p
  · subst e; rw [upd_s, up_s]
  · rw [upd_n (by omega), up_n e]; exact h5 o ho
theorem rr_set_ca (h : RepR T r) {p : Nat} (hp : p < 384) (n : Nat) : RepR (ts_ca T (va_up (tt_ca T) p n)) (upd r (23 + p) (nI n)) := by
  have l := rr_lines h (r' := upd r (23 + p) (nI n)) (fun i hi => upd_n (by omega))
  obtain ⟨h1, h2, h3, h4, h5, h6, h7, -, -⟩ := h
  refine ⟨fun i hi => by rw [upd_n (by omega)]; exact h1 i hi, by rw [upd_n (by omega)]; exact h2, fun q q1 hq => by rw [upd_n (by omega)]; exact h3 q q1 hq, fun o ho => by rw [upd_n (by omega)]; exact h4 o ho, fun o ho => by rw [upd_n (by omega)]; exact h5 o ho, fun i hi => ?_, fun i hi => by rw [upd_n (by omega)]; exact h7 i hi, l⟩
  show upd r (23 + p) (nI n) (23 + i) = nI (va_up (tt_ca T) p n i)
  by_cases e : i = p
  · subst e; rw [upd_s, up_s]
  · rw [upd_n (by omega), up_n e]; exact h6 i hi
theorem rr_set_kn (h : RepR T r) {p : Nat} (hp : p < 32) (f : Nat → Bool) : RepR (ts_kn T (va_up (tt_kn T) p f)) (upd r (407 + p) (nI (2 * bits f 24))) := by
  have l := rr_lines h (r' := upd r (407 + p) (nI (2 * bits f 24))) (fun i hi => upd_n (by omega))
  obtain ⟨h1, h2, h3, h4, h5, h6, h7, -, -⟩ := h
  refine ⟨fun i hi => by rw [upd_n (by omega)]; exact h1 i hi, by rw [upd_n (by omega)]; exact h2, fun q q1 hq => by rw [upd_n (by omega)]; exact h3 q q1 hq, fun o ho => by rw [upd_n (by omega)]; exact h4 o ho, fun o ho => by rw [upd_n (by omega)]; exact h5 o ho, fun i hi => by rw [upd_n (by omega)]; exact h6 i hi, fun i hi => ?_, l⟩
  show upd r (407 + p) (nI (2 * bits f 24)) (407 + i) = nI (2 * bits (va_up (tt_kn T) p f i) 24)
  by_cases e : i = p
  · subst e; rw [upd_s, up_s]
  · rw [upd_n (by omega), up_n e]; exact h7 i hi
theorem rr_set_co (h : RepR T r) {p : Nat} (hp : p < 8) {l : List Nat} (hl : RLn (r' (439 + p)) (fun k => r' (447 + 96 * p + k)) l) (h96 : l.length ≤ 96) (f : ∀ j, j ≠ 439 + p → (j < 447 + 96 * p ∨ 447 + 96 * p + 96 ≤ j) → r' j = r j) : RepR (ts_li T (va_up (tt_li T) p l)) r' := by
  obtain ⟨h1, h2, h3, h4, h5, h6, h7, h8, h9⟩ := h
  refine ⟨fun i hi => by rw [f _ (by omega) (by omega)]; exact h1 i hi, by rw [f _ (by omega) (by omega)]; exact h2, fun q q1 hq => by rw [f _ (by omega) (by omega)]; exact h3 q q1 hq, fun o ho => by rw [f _ (by omega) (by omega)]; exact h4 o ho, fun o ho => by rw [f _ (by omega) (by omega)]; exact h5 o ho, fun i hi => by rw [f _ (by omega) (by omega)]; exact h6 i hi, fun i hi => by rw [f _ (by omega) (by omega)]; exact h7 i hi, fun q hq => ?_, fun i i8 hi => ?_⟩
  · show RLn _ _ (va_up (tt_li T) p l q) ∧ (va_up (tt_li T) p l q).length ≤ 96
    by_cases e : q = p
    · subst e; rw [up_s]; exact ⟨hl, h96⟩
    · rw [up_n e]
      have g := h8 q hq
      exact ⟨rl_cong g.1 (f _ (by omega) (by omega)) (fun k hk => f _ (by omega) (by omega)), g.2⟩
  · show RLn _ _ (va_up (tt_li T) p l i) ∧ (va_up (tt_li T) p l i).length ≤ 12
    rw [up_n (by omega)]
    have := qb_ge (i := i)
    have g := h9 i i8 hi
    exact ⟨rl_cong g.1 (f _ (by omega) (by omega)) (fun k hk => f _ (by omega) (by omega)), g.2⟩
theorem rr_set_q (h : RepR T r) {p : Nat} (p8 : 8 ≤ p) (hp : p < 24) {l : List Nat} (hl : RLn (r' (qb p)) (fun k => r' (qb p + 1 + k)) l) (h12 : l.length ≤ 12) (f : ∀ j, (j < qb p ∨ qb p + 13 ≤ j) → r' j = r j) : RepR (ts_li T (va_up (tt_li T) p l)) r' := by
  obtain ⟨h1, h2, h3, h4, h5, h6, h7, h8, h9⟩ := h
  have hq := qb_ge (i := p)
  refine ⟨fun i hi => by rw [f _ (by omega)]; exact h1 i hi, by rw [f _ (by omega)]; exact h2, fun q q1 hq => by rw [f _ (by omega)]; exact h3 q q1 hq, fun o ho => by rw [f _ (by omega)]; exact h4 o ho, fun o ho => by rw [f _ (by omega)]; exact h5 o ho, fun i hi => by rw [f _ (by omega)]; exact h6 i hi, fun i hi => by rw [f _ (by omega)]; exact h7 i hi, fun q hq => ?_, fun i i8 hi => ?_⟩
  · show RLn _ _ (va_up (tt_li T) p l q) ∧ (va_up (tt_li T) p l q).length ≤ 96
    rw [up_n (by omega)]
    have g := h8 q hq
    exact ⟨rl_cong g.1 (f _ (by omega)) (fun k hk => f _ (by have := g.2; omega)), g.2⟩
  · show RLn _ _ (va_up (tt_li T) p l i) ∧ (va_up (tt_li T) p l i).length ≤ 12
    by_cases e : i = p
    · subst e; rw [up_s]; exact ⟨hl, h12⟩
    · rw [up_n e]
      have g := h9 i i8 hi
      have d := qb_dis hi i8 hp p8 e
      have g2 := g.2
      exact ⟨rl_cong g.1 (f _ (by omega)) (fun k hk => f _ (by omega)), g.2⟩
end REF
/-- what a step of the reference leaves as it is -/
def FrR (w w' : Wd) : Prop := ∀ k, k ≠ 1 → k ≠ 5 → w' k = w k
theorem FrR.rf {w : Wd} : FrR w w := fun _ _ _ => rfl
theorem FrR.tr {w w1 w2 : Wd} (h : FrR w w1) (h2 : FrR w1 w2) : FrR w w2 := fun k a b => (h2 k a b).trans (h k a b)
theorem FrR.s {w : Wd} {k j : Nat} {x : Int32} (hk : k = 1 ∨ k = 5) : FrR w (wset w k j x) := fun a h1 h2 => wset_ne (by omega)
theorem FrR.of5 {w w' : Wd} (h : ∀ k, k ≠ 5 → w' k = w k) : FrR w w' := fun k _ h5 => h k h5
theorem FrR.of1 {w w' : Wd} (h : ∀ k, k ≠ 1 → w' k = w k) : FrR w w' := fun k h1 _ => h k h1
/-- what a call of the reference leaves as it is -/
def FrW (w w' : Wd) : Prop := (∀ k, k ≠ 0 → k ≠ 1 → k ≠ 5 → k ≠ 6 → w' k = w k) ∧ ∀ j, j ≠ 8 → w' 0 j = w 0 j
theorem FrW.rf {w : Wd} : FrW w w := ⟨fun _ _ _ _ _ => rfl, fun _ _ => rfl⟩
theorem FrW.tr {w w1 w2 : Wd} (h : FrW w w1) (h2 : FrW w1 w2) : FrW w w2 := ⟨fun k a b c d => (h2.1 k a b c d).trans (h.1 k a b c d), fun j hj => (h2.2 j hj).trans (h.2 j hj)⟩
theorem FrR.w {w w' : Wd} (h : FrR w w') : FrW w w' := ⟨fun k _ b c _ => h k b c, fun j _ => by rw [h 0 (by omega) (by omega)]⟩
