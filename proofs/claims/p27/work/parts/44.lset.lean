/-! ===== writing into the law's rows ===== -/
def Len (T : TT) : Prop := ∀ i, 1 ≤ i → i < 24 → (tt_li T i).length ≤ 12
theorem rlr_fr {row row' : Nat → Int32} {b : Nat} {l : List Nat} (h : RLr row b l) (hf : ∀ k, b ≤ k → k ≤ b + l.length → row' k = row k) : RLr row' b l := by
  refine ⟨by rw [hf b (Nat.le_refl _) (by omega)]; exact h.1, fun k x hk => ?_⟩
  have := (List.getElem?_eq_some_iff.mp hk).1
  rw [hf _ (by omega) (by omega)]
  exact h.2 k x hk
theorem rlr_at {row : Nat → Int32} {b : Nat} {l : List Nat} (h : RLr row b l) {k : Nat} (hk : k < l.length) : row (b + 1 + k) = nI (lu l[k]) := h.2 k _ (List.getElem?_eq_getElem hk)
theorem rlr_app {row : Nat → Int32} {b : Nat} {l : List Nat} (h : RLr row b l) (u : Nat) : RLr (upd (upd row b (nI (l.length + 1))) (b + (l.length + 1)) (nI (lu u))) b (l ++ [u]) := by
  refine ⟨by rw [upd_n (by omega), upd_s, List.length_append]; rfl, fun k x hk => ?_⟩
  by_cases c : k = l.length
  · subst c
    rw [List.getElem?_append_right (Nat.le_refl _), Nat.sub_self] at hk
    have : u = x := Option.some.inj hk
    rw [show b + 1 + l.length = b + (l.length + 1) by omega, upd_s, this]
  · have hlt : k < l.length := by
      have := (List.getElem?_eq_some_iff.mp hk).1
      rw [List.length_append] at this
      have : k < l.length + 1 := this
      omega
    rw [List.getElem?_append_left hlt] at hk
    rw [upd_n (by omega), upd_n (by omega)]
    exact h.2 k x hk
abbrev rdOk (r d : Nat) : Prop := r = 493 ∧ d = 8 ∨ r = 494 ∧ d = 16 ∨ r = 495 ∧ d = 0
section LSET
variable {T : TT} {w w' : Wd}
theorem rl_get (h : RepL T w) {r d c : Nat} (hrd : rdOk r d) (h1 : 1 ≤ c) (hc : c < 5) : RLr (w r) (13 * (c - 1)) (tt_li T (d + c)) := by
  rcases hrd with ⟨rfl, rfl⟩ | ⟨rfl, rfl⟩ | ⟨rfl, rfl⟩
  · exact rl_up h h1 hc
  · exact rl_dn h h1 hc
  · rw [Nat.zero_add]; exact rl_ke h h1 hc
theorem rl_set_li (h : RepL T w) (L : Len T) {r d c : Nat} (hrd : rdOk r d) (h1 : 1 ≤ c) (hc : c < 5) {l : List Nat} (hl : RLr (w' r) (13 * (c - 1)) l) (hb : ∀ k, k < 13 * (c - 1) ∨ 13 * (c - 1) + 13 ≤ k → w' r k = w r k) (hf : ∀ k, 490 ≤ k → k < 497 → k ≠ r → w' k = w k) : RepL (ts_li T (va_up (tt_li T) (d + c) l)) w' := by
  have hr : 493 ≤ r ∧ r ≤ 495 := by rcases hrd with ⟨rfl, rfl⟩ | ⟨rfl, rfl⟩ | ⟨rfl, rfl⟩ <;> omega
  have e0 := hf 490 (by omega) (by omega) (by omega)
  have e1 := hf 491 (by omega) (by omega) (by omega)
  have e2 := hf 492 (by omega) (by omega) (by omega)
  have e6 := hf 496 (by omega) (by omega) (by omega)
  obtain ⟨a1, a2, a3, a4, a5, a6, a7, a8⟩ := h
  refine ⟨by rw [e0]; exact a1, by rw [e0]; exact a2, by rw [e0]; exact a3, by rw [e0]; exact a4, by rw [e1]; exact a5, by rw [e2]; exact a6, fun j j1 j5 => ?_, ?_⟩
  · have one : ∀ (r2 d2 : Nat), rdOk r2 d2 → RLr (w r2) (13 * (j - 1)) (tt_li T (d2 + j)) → (tt_li T (d2 + j)).length ≤ 12 → RLr (w' r2) (13 * (j - 1)) (va_up (tt_li T) (d + c) l (d2 + j)) := by
      intro r2 d2 h2 hg hle
      by_cases e : r2 = r
      · subst e
        have ed : d2 = d := by rcases h2 with ⟨e1, e2⟩ | ⟨e1, e2⟩ | ⟨e1, e2⟩ <;> rcases hrd with ⟨g1, g2⟩ | ⟨g1, g2⟩ | ⟨g1, g2⟩ <;> omega
        subst ed
        by_cases k : j = c
        · subst k; rw [up_s]; exact hl
        · rw [up_n (by omega)]
          exact rlr_fr hg (fun i i1 i2 => hb i (by omega))
      · have ne : d2 + j ≠ d + c := by rcases h2 with ⟨e1, e2⟩ | ⟨e1, e2⟩ | ⟨e1, e2⟩ <;> rcases hrd with ⟨g1, g2⟩ | ⟨g1, g2⟩ | ⟨g1, g2⟩ <;> omega
        have hr2 : 490 ≤ r2 ∧ r2 < 497 := by rcases h2 with ⟨e1, e2⟩ | ⟨e1, e2⟩ | ⟨e1, e2⟩ <;> omega
        rw [up_n ne, hf r2 hr2.1 hr2.2 e]
        exact hg
    have := a7 j j1 j5
    have u1 := one 493 8 (Or.inl ⟨rfl, rfl⟩) this.1 (L _ (by omega) (by omega))
    have u2 := one 494 16 (Or.inr (Or.inl ⟨rfl, rfl⟩)) this.2.1 (L _ (by omega) (by omega))
    have u3 := one 495 0 (Or.inr (Or.inr ⟨rfl, rfl⟩)) (by rw [Nat.zero_add]; exact this.2.2) (L _ (by omega) (by omega))
    rw [Nat.zero_add] at u3
    exact ⟨u1, u2, u3⟩
  · rw [e6]
    show RLr (w 496) 0 (va_up (tt_li T) (d + c) l 0)
    rw [up_n (by omega)]
    exact a8
theorem rl_set_ro (h : RepL T w) {l : List Nat} (hl : RLr (w' 496) 0 l) (hf : ∀ k, 490 ≤ k → k < 497 → k ≠ 496 → w' k = w k) : RepL (ts_li T (va_up (tt_li T) 0 l)) w' := by
  have e0 := hf 490 (by omega) (by omega) (by omega)
  have e1 := hf 491 (by omega) (by omega) (by omega)
  have e2 := hf 492 (by omega) (by omega) (by omega)
  have e3 := hf 493 (by omega) (by omega) (by omega)
  have e4 := hf 494 (by omega) (by omega) (by omega)
  have e5 := hf 495 (by omega) (by omega) (by omega)
  obtain ⟨a1, a2, a3, a4, a5, a6, a7, a8⟩ := h
  refine ⟨by rw [e0]; exact a1, by rw [e0]; exact a2, by rw [e0]; exact a3, by rw [e0]; exact a4, by rw [e1]; exact a5, by rw [e2]; exact a6, fun j j1 j5 => ?_, ?_⟩
  · show RLr (w' 493) _ (va_up (tt_li T) 0 l (8 + j)) ∧ RLr (w' 494) _ (va_up (tt_li T) 0 l (16 + j)) ∧ RLr (w' 495) _ (va_up (tt_li T) 0 l j)
    rw [up_n (by omega), up_n (by omega), up_n (by omega), e3, e4, e5]
    exact a7 j j1 j5
  · show RLr (w' 496) 0 (va_up (tt_li T) 0 l 0)
    rw [up_s]
    exact hl
theorem rl_490 (h : RepL T w) {T' : TT} (h1 : ∀ j, j < 7 → w' 490 j = nI (tt_nu T' j)) (h2 : ∀ p, p < 8 → w' 490 (8 + p) = nI (tt_pa T' p)) (h3 : ∀ o, o < 4 → w' 490 (16 + o) = nI (tt_ho T' o)) (h4 : ∀ o, o < 4 → w' 490 (20 + o) = nI (tt_wr T' o)) (hf : ∀ k, 491 ≤ k → k < 497 → w' k = w k) (e : T'.2.2.2.2.2 = T.2.2.2.2.2) (ec : tt_ca T' = tt_ca T) (ew : tt_wr T' = tt_wr T) : RepL T' w' := by
  obtain ⟨a1, a2, a3, a4, a5, a6, a7, a8⟩ := h
  have ek : tt_kn T' = tt_kn T := congrArg Prod.fst e
  have el : tt_li T' = tt_li T := congrArg Prod.snd e
  have ecp : cpk T' = cpk T := by funext j; unfold cpk; rw [ec]
  refine ⟨h1, h2, h3, h4, ?_, ?_, ?_, ?_⟩
  · rw [hf 491 (by omega) (by omega), ek]; exact a5
  · rw [hf 492 (by omega) (by omega), ecp, ew]; exact a6
  · rw [hf 493 (by omega) (by omega), hf 494 (by omega) (by omega), hf 495 (by omega) (by omega), el]; exact a7
  · rw [hf 496 (by omega) (by omega), el]; exact a8
theorem rl_set_nu (h : RepL T w) {j : Nat} (hj : j < 7) (n : Nat) : RepL (ts_nu T (va_up (tt_nu T) j n)) (wset w 490 j (nI n)) := by
  refine rl_490 h (fun i hi => ?_) (fun i hi => ?_) (fun i hi => ?_) (fun i hi => ?_) (fun k h1 h2 => wset_ne (by omega)) rfl rfl rfl
  · rw [wset_same]
    show upd (w 490) j (nI n) i = nI (va_up (tt_nu T) j n i)
    by_cases c : i = j
    · subst c; rw [upd_s, up_s]
    · rw [upd_n c, up_n c]; exact rl_nu h hi
  · rw [wset_same, upd_n (by omega)]; exact rl_pa h hi
  · rw [wset_same, upd_n (by omega)]; exact rl_ho h hi
  · rw [wset_same, upd_n (by omega)]; exact rl_wr h hi
theorem rl_set_7 (h : RepL T w) (x : Int32) : RepL T (wset w 490 7 x) := by
  refine rl_490 h (fun i hi => ?_) (fun i hi => ?_) (fun i hi => ?_) (fun i hi => ?_) (fun k h1 h2 => wset_ne (by omega)) rfl rfl rfl
  · rw [wset_same, upd_n (by omega)]; exact rl_nu h hi
  · rw [wset_same, upd_n (by omega)]; exact rl_pa h hi
  · rw [wset_same, upd_n (by omega)]; exact rl_ho h hi
  · rw [wset_same, upd_n (by omega)]; exact rl_wr h hi
theorem rl_set_pa (h : RepL T w) {j : Nat} (hj : j < 8) (n : Nat) : RepL (ts_pa T (va_up (tt_pa T) j n)) (wset w 490 (8 + j) (nI n)) := by
  refine rl_490 h (fun i hi => ?_) (fun i hi => ?_) (fun i hi => ?_) (fun i hi => ?_) (fun k h1 h2 => wset_ne (by omega)) rfl rfl rfl
  · rw [wset_same, upd_n (by omega)]; exact rl_nu h hi
  · rw [wset_same]
    show upd (w 490) (8 + j) (nI n) (8 + i) = nI (va_up (tt_pa T) j n i)
    by_cases c : i = j
    · subst c; rw [upd_s, up_s]
    · rw [upd_n (by omega), up_n c]; exact rl_pa h hi
  · rw [wset_same, upd_n (by omega)]; exact rl_ho h hi
  · rw [wset_same, upd_n (by omega)]; exact rl_wr h hi
theorem rl_set_ho (h : RepL T w) {j : Nat} (hj : j < 4) (n : Nat) : RepL (ts_ho T (va_up (tt_ho T) j n)) (wset w 490 (16 + j) (nI n)) := by
  refine rl_490 h (fun i hi => ?_) (fun i hi => ?_) (fun i hi => ?_) (fun i hi => ?_) (fun k h1 h2 => wset_ne (by omega)) rfl rfl rfl
  · rw [wset_same, upd_n (by omega)]; exact rl_nu h hi
  · rw [wset_same, upd_n (by omega)]; exact rl_pa h hi
  · rw [wset_same]
    show upd (w 490) (16 + j) (nI n) (16 + i) = nI (va_up (tt_ho T) j n i)
    by_cases c : i = j
    · subst c; rw [upd_s, up_s]
    · rw [upd_n (by omega), up_n c]; exact rl_ho h hi
  · rw [wset_same, upd_n (by omega)]; exact rl_wr h hi
theorem rl_set_kn (h : RepL T w) {j : Nat} (f : Nat → Bool) : RepL (ts_kn T (va_up (tt_kn T) j f)) (wset w 491 j (nI (2 * bits f 12))) := by
  obtain ⟨a1, a2, a3, a4, a5, a6, a7, a8⟩ := h
  have ne : ∀ k, k ≠ 491 → wset w 491 j (nI (2 * bits f 12)) k = w k := fun k hk => wset_ne hk
  refine ⟨?_, ?_, ?_, ?_, fun i hi => ?_, ?_, ?_, ?_⟩
  · rw [ne 490 (by omega)]; exact a1
  · rw [ne 490 (by omega)]; exact a2
  · rw [ne 490 (by omega)]; exact a3
  · rw [ne 490 (by omega)]; exact a4
  · rw [wset_same]
    show upd (w 491) j (nI (2 * bits f 12)) i = nI (2 * bits (va_up (tt_kn T) j f i) 12)
    by_cases c : i = j
    · subst c; rw [upd_s, up_s]
    · rw [upd_n c, up_n c]; exact a5 i hi
  · rw [ne 492 (by omega)]; exact a6
  · rw [ne 493 (by omega), ne 494 (by omega), ne 495 (by omega)]; exact a7
  · rw [ne 496 (by omega)]; exact a8
theorem bits_or12 (f : Nat → Bool) {v : Nat} (h1 : 1 ≤ v) (hv : v ≤ 12) : 2 * bits f 12 ||| 2 ^ v = 2 * bits (va_up f v true) 12 := by
  apply Nat.eq_of_testBit_eq
  intro i
  rw [Nat.testBit_or, Nat.testBit_two_pow]
  rcases Nat.eq_zero_or_pos i with e | e
  · subst e
    have e1 : (2 * bits f 12).testBit 0 = false := by rw [Nat.testBit_zero]; simp
    have e2 : (2 * bits (va_up f v true) 12).testBit 0 = false := by rw [Nat.testBit_zero]; simp
    rw [e1, e2, decide_eq_false (by omega)]; rfl
  · obtain ⟨k, rfl⟩ : ∃ k, i = k + 1 := ⟨i - 1, by omega⟩
    rw [Nat.testBit_succ, Nat.mul_div_cancel_left _ (by omega), Nat.testBit_succ, Nat.mul_div_cancel_left _ (by omega), bits_tb, bits_tb]
    by_cases c : k + 1 = v
    · subst c
      rw [up_s]
      simp
      omega
    · rw [up_n c, decide_eq_false (p := v = k + 1) (fun q => c q.symm), Bool.or_false]
theorem l_add (h : RepL T w) {p o v : Nat} (hp : p < 8) (ho : o < 4) (h1 : 1 ≤ v) (hv : v ≤ 12) : RepL (addKn T p o v) (wset w 491 (4 * p + o) (nI (2 * bits (tt_kn T (4 * p + o)) 12) ||| (nI 1 <<< (nI v &&& 31)))) := by
  have hb := bits_12 (tt_kn T (4 * p + o))
  have e : nI (2 * bits (tt_kn T (4 * p + o)) 12) ||| (nI 1 <<< (nI v &&& 31)) = nI (2 * bits (va_up (tt_kn T (4 * p + o)) v true) 12) := by
    rw [z_shl1 (by omega), fa_or, bits_or12 _ h1 hv]
  rw [e]
  exact rl_set_kn h _
end LSET
