/-! ===== lines ===== -/
theorem wset_same (w : Wd) (k j : Nat) (x : Int32) : wset w k j x k = upd (w k) j x := by simp [wset, va_up]
theorem wset_ne {w : Wd} {k j a : Nat} {x : Int32} (h : a ≠ k) : wset w k j x a = w a := by simp [wset, va_up, h]
theorem upd_s (f : Nat → Int32) (k : Nat) (x : Int32) : upd f k x k = x := by simp [upd]
theorem upd_n {f : Nat → Int32} {k j : Nat} {x : Int32} (h : j ≠ k) : upd f k x j = f j := by simp [upd, h]
theorem up_s {α : Type} (f : Nat → α) (k : Nat) (x : α) : va_up f k x k = x := by simp [va_up]
theorem up_n {α : Type} {f : Nat → α} {k j : Nat} {x : α} (h : j ≠ k) : va_up f k x j = f j := by simp [va_up, h]
theorem rl_len {sz : Int32} {row : Nat → Int32} {l : List Nat} (h : RLn sz row l) : sz = nI l.length := h.1
theorem rl_at {sz : Int32} {row : Nat → Int32} {l : List Nat} (h : RLn sz row l) {k : Nat} (hk : k < l.length) : row k = nI (l[k]) := h.2 k _ (List.getElem?_eq_getElem hk)
theorem rl_nil {row : Nat → Int32} : RLn (nI 0) row [] := ⟨rfl, fun k x h => by simp at h⟩
theorem rl_app {sz : Int32} {row : Nat → Int32} {l : List Nat} (h : RLn sz row l) (x : Nat) : RLn (nI (l.length + 1)) (upd row l.length (nI x)) (l ++ [x]) := by
  refine ⟨by simp, fun k y hk => ?_⟩
  by_cases e : k = l.length
  · subst e
    rw [upd_s]
    simp at hk
    rw [hk]
  · rw [upd_n e]
    have hlt : k < l.length := by
      have := (List.getElem?_eq_some_iff.mp hk).1
      simp at this
      omega
    rw [List.getElem?_append_left hlt] at hk
    exact h.2 k y hk
section LINES
variable {q : Nat} {w : Wd} {l : List Nat}
theorem e_len (h : RLn (w q 1) (w (q + 1)) l) : m_X2_length q w = some (nI l.length) := by rw [m_X2_length, h.1]
theorem e_at (h : RLn (w q 1) (w (q + 1)) l) (hR : l.length ≤ lroom q) (hb : lroom q < 1000) {k : Nat} (hk : k < l.length) : m_X2_at q (nI k) w = some (nI (l[k])) := by
  unfold m_X2_at
  rw [h.1, if_neg (nI_pos (by omega)), if_neg (nI_ge hk (by omega)), if_neg (show ¬ nI (lroom q) ≤ nI k from nI_ge (by omega) (by omega)), if_pos (show ib (nI k) (lroom q) by rw [z_ib (by omega)]; omega), nI_clamp (by omega), rl_at h hk]
theorem e_at_out (h : RLn (w q 1) (w (q + 1)) l) (hl : l.length < 1000) {k : Nat} (hk : l.length ≤ k) (hb : k < 2 ^ 31) : m_X2_at q (nI k) w = some (nI 0) := by
  unfold m_X2_at
  rw [h.1, if_neg (nI_pos hb), if_pos (nI_le hk hb)]
theorem e_has_L (h : RLn (w q 1) (w (q + 1)) l) (hR : l.length ≤ lroom q) (hb : lroom q < 1000) {x : Nat} (hx : x < 2 ^ 31) (hv : ∀ y ∈ l, y < 2 ^ 31) : ∀ (d n k : Nat), k + d = l.length → d < n → m_X2_has_L2 q (nI x) w n (nI k) = some (if x ∈ l.drop k then nI 1 else nI 0) := by
  intro d
  induction d with
  | zero =>
    intro n k hk hn
    obtain ⟨n, rfl⟩ : ∃ m, n = m + 1 := ⟨n - 1, by omega⟩
    rw [m_X2_has_L2, h.1, if_pos (nI_le (by omega) (by omega))]
    have : l.drop k = [] := List.drop_eq_nil_of_le (by omega)
    simp [this]
  | succ d ih =>
    intro n k hk hn
    obtain ⟨n, rfl⟩ : ∃ m, n = m + 1 := ⟨n - 1, by omega⟩
    have hlt : k < l.length := by omega
    rw [m_X2_has_L2]
    rw [h.1, if_neg (nI_ge hlt (by omega)), if_neg (show ¬ nI (lroom q) ≤ nI k from nI_ge (by omega) (by omega)), if_pos (show ib (nI k) (lroom q) by rw [z_ib (by omega)]; omega), nI_clamp (by omega), rl_at h hlt]
    have hd : l.drop k = l[k] :: l.drop (k + 1) := List.drop_eq_getElem_cons hlt
    have hy := hv (l[k]) (List.getElem_mem hlt)
    by_cases e : l[k] = x
    · rw [if_neg (by rw [e]; simp), if_pos (by rw [hd, e]; exact List.mem_cons_self)]
    · rw [if_pos (by rw [nI_eq hy hx]; exact e), show nI k + nI 1 = nI (k + 1) from nI_1 k, ih n (k + 1) (by omega) (by omega), hd]
      have : (x ∈ l[k] :: l.drop (k + 1)) = (x ∈ l.drop (k + 1)) := by
        apply propext
        rw [List.mem_cons]
        exact ⟨fun h => h.elim (fun z => absurd z.symm e) id, Or.inr⟩
      simp only [this]
theorem e_has (h : RLn (w q 1) (w (q + 1)) l) (hR : l.length ≤ lroom q) (hb : lroom q < 1000) {x : Nat} (hx : x < 2 ^ 31) (hv : ∀ y ∈ l, y < 2 ^ 31) : m_X2_has q (nI x) w = some (if x ∈ l then nI 1 else nI 0) := by
  rw [m_X2_has, e_has_L h hR hb hx hv l.length FU 0 (by omega) (by show l.length < 10000; omega)]
  rfl
theorem e_app (h : RLn (w q 1) (w (q + 1)) l) (hR : l.length < lroom q) (hb : lroom q < 1000) (x : Nat) : ∃ w', m_X2_append q (nI x) w = some (nI 1, w') ∧ RLn (w' q 1) (w' (q + 1)) (l ++ [x]) ∧ ∀ k, k ≠ q → k ≠ q + 1 → w' k = w k := by
  refine ⟨wset (wset w (q + 1) l.length (nI x)) q 1 (nI (l.length + 1)), ?_, ?_, ?_⟩
  · simp only [m_X2_append, lt_eq]
    rw [h.1, if_neg (nI_pos (by omega)), if_pos (show nI l.length < nI (lroom q) from nI_lt hR (by omega)), if_pos (show ib (nI l.length) (lroom q) by rw [z_ib (by omega)]; omega), nI_clamp (by omega), wset_ne (show q ≠ q + 1 by omega), h.1, nI_add]
  · rw [wset_same, upd_s, wset_ne (by omega), wset_same]
    exact rl_app h x
  · intro k h1 h2
    rw [wset_ne h1, wset_ne h2]
theorem e_app_full (h : RLn (w q 1) (w (q + 1)) l) (hR : lroom q ≤ l.length) (hl : l.length < 1000) (x : Int32) : m_X2_append q x w = some (nI 0, w) := by
  simp only [m_X2_append, lt_eq]
  rw [h.1, if_neg (nI_pos (by omega)), if_neg (show ¬ nI l.length < nI (lroom q) from nI_nlt hR (by omega))]
theorem e_clear (w : Wd) (q : Nat) : ∃ w', m_X2_clear q w = some w' ∧ RLn (w' q 1) (w' (q + 1)) [] ∧ ∀ k, k ≠ q → w' k = w k := by
  refine ⟨wset w q 1 0, rfl, ?_, fun k h => wset_ne h⟩
  rw [wset_same, upd_s, wset_ne (by omega)]
  exact rl_nil
end LINES
