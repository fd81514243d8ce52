/-! ===== the reference: the script ===== -/
def mp (np : Nat) (X : List Nat) (st l n k : Nat) : Nat ⊕ List CM := mpar np (X.drop k) st l n k
theorem mp_end {np : Nat} {X : List Nat} {st l n k : Nat} (h : k = X.length) : mp np X st l n k = if st = 0 then .inr [] else .inl k := by
  unfold mp
  rw [h, List.drop_length, mpar]
theorem mp_at {np : Nat} {X : List Nat} {st l n k : Nat} (h : k < X.length) : mp np X st l n k = if X[k] = 32 then mp np X st l n (k + 1) else if st = 0 then (if lqu X[k] || lal X[k] then mp np X 1 X[k] 0 (k + 1) else .inl k) else if st = 1 then (if okN np l X[k] then (if lal l then consC (l, X[k] - 48, 0) (mp np X 0 0 0 (k + 1)) else mp np X 2 l (X[k] - 48) (k + 1)) else .inl k) else (if 49 ≤ X[k] ∧ X[k] ≤ 57 then consC (l, n, X[k] - 48) (mp np X 0 0 0 (k + 1)) else .inl k) := by
  unfold mp
  rw [List.drop_eq_getElem_cons h, mpar]
/-- what the reading of the script leaves as it is -/
def FrK (w w' : Wd) : Prop := (∀ i, i ≠ 0 → w' i = w i) ∧ ∀ j, j ≠ 10 → j ≠ 11 → j ≠ 12 → j ≠ 13 → w' 0 j = w 0 j
theorem FrK.rf {w : Wd} : FrK w w := ⟨fun _ _ => rfl, fun _ _ _ _ _ => rfl⟩
theorem FrK.tr {w w1 w2 : Wd} (h : FrK w w1) (g : FrK w1 w2) : FrK w w2 := ⟨fun i hi => (g.1 i hi).trans (h.1 i hi), fun j a b c d => (g.2 j a b c d).trans (h.2 j a b c d)⟩
theorem FrK.s {w : Wd} {j : Nat} {x : Int32} (h : j = 10 ∨ j = 11 ∨ j = 12 ∨ j = 13) : FrK w (wset w 0 j x) := ⟨fun i hi => wset_ne hi, fun i a b c d => by rw [wset_same, upd_n (by omega)]⟩
def FrX (w w' : Wd) : Prop := (∀ k, k ≠ 0 → k ≠ 1 → k ≠ 5 → k ≠ 6 → w' k = w k) ∧ ∀ j, j ≠ 8 → j ≠ 10 → j ≠ 11 → j ≠ 12 → j ≠ 13 → w' 0 j = w 0 j
theorem FrX.tr {w w1 w2 : Wd} (h : FrX w w1) (g : FrX w1 w2) : FrX w w2 := ⟨fun k a b c d => (g.1 k a b c d).trans (h.1 k a b c d), fun j a b c d e => (g.2 j a b c d e).trans (h.2 j a b c d e)⟩
theorem FrK.x {w w' : Wd} (h : FrK w w') : FrX w w' := ⟨fun k a _ _ _ => h.1 k a, fun j _ b c d e => h.2 j b c d e⟩
theorem FrW.x {w w' : Wd} (h : FrW w w') : FrX w w' := ⟨h.1, fun j a _ _ _ _ => h.2 j a⟩
theorem HR.x {T : TT} {H : List TT} {X : List Nat} {w w' : Wd} (h : HR T H X w) (f : FrX w w') : HR T H X w' := ⟨by rw [f.1 3 (by omega) (by omega) (by omega) (by omega)]; exact h.1, h.2.1, hist_w h.2.2.1 (f.1 2 (by omega) (by omega) (by omega) (by omega)) (f.2 3 (by omega) (by omega) (by omega) (by omega) (by omega)), text_w h.2.2.2 (f.1 4 (by omega) (by omega) (by omega) (by omega)) (f.2 5 (by omega) (by omega) (by omega) (by omega) (by omega))⟩
theorem text_x {X : List Nat} {w w' : Wd} (h : TextR X w) (f : FrX w w') : TextR X w' := text_w h (f.1 4 (by omega) (by omega) (by omega) (by omega)) (f.2 5 (by omega) (by omega) (by omega) (by omega) (by omega))
section RSCRIPT
variable {T : TT} {S : ST} {X : List Nat} {w : Wd}
theorem tx_at (h : TextR X w) {k : Nat} (hk : k < X.length) : w 4 k = nI X[k] ∧ X[k] ≤ 255 := ⟨rl_at h.2.1 hk, h.2.2.2 _ (List.getElem_mem hk)⟩
theorem r_skips (np : Nat) : ∀ (d n k : Nat) (w : Wd), k + d = X.length → d < n → TextR X w → w 0 10 = nI k → ∃ k' w', k ≤ k' ∧ k' ≤ X.length ∧ m_X8_skips_L0 n w = some w' ∧ w' 0 10 = nI k' ∧ FrK w w' ∧ (∀ j, j ≠ 10 → w' 0 j = w 0 j) ∧ (∀ h : k' < X.length, X[k'] ≠ 32) ∧ ∀ st l n, mp np X st l n k = mp np X st l n k' := by
  intro d
  induction d with
  | zero =>
    intro n k w hk hn ht e
    obtain ⟨n, rfl⟩ : ∃ m, n = m + 1 := ⟨n - 1, by omega⟩
    have := ht.2.2.1
    exact ⟨k, w, Nat.le_refl _, by omega, by rw [m_X8_skips_L0, if_pos (by rw [ht.1, e, z_le (by omega) (by omega)]; omega)], e, FrK.rf, fun _ _ => rfl, fun h => by omega, fun _ _ _ => rfl⟩
  | succ d ih =>
    intro n k w hk hn ht e
    obtain ⟨n, rfl⟩ : ∃ m, n = m + 1 := ⟨n - 1, by omega⟩
    have hl := ht.2.2.1
    have hlt : k < X.length := by omega
    obtain ⟨ex, hx⟩ := tx_at ht hlt
    have ex' : w 4 (w 0 10).toNatClampNeg = nI X[k] := by rw [e, nI_clamp (by omega)]; exact ex
    rw [m_X8_skips_L0, if_neg (by rw [ht.1, e, z_le (by omega) (by omega)]; omega), if_pos (by rw [e]; exact ib_n (by omega) (by omega))]
    by_cases c : X[k] = 32
    · have e1 : wset w 0 10 (w 0 10 + nI 1) = wset w 0 10 (nI (k + 1)) := by rw [e, nI_add]
      have ht1 : TextR X (wset w 0 10 (nI (k + 1))) := text_w ht (by rw [wset_ne (by omega)]) (by rw [wset_same, upd_n (by omega)])
      obtain ⟨k', w', a1, a2, a3, a4, a5, a6, a7, a8⟩ := ih n (k + 1) _ (by omega) (by omega) ht1 (by rw [wset_same, upd_s])
      refine ⟨k', w', by omega, a2, by rw [if_neg (by rw [ex', c]; exact fun q => q rfl), e1, lt_eq]; exact a3, a4, (FrK.s (Or.inl rfl)).tr a5, fun j hj => by rw [a6 j hj, wset_same, upd_n hj], a7, fun st l n => ?_⟩
      rw [mp_at hlt, if_pos c]; exact a8 st l n
    · exact ⟨k, w, Nat.le_refl _, by omega, by rw [if_pos (by rw [ex', z_eq (by omega) (by omega)]; exact c)], e, FrK.rf, fun _ _ => rfl, fun _ => c, fun _ _ _ => rfl⟩
theorem r_skip (np : Nat) {k : Nat} (hk : k ≤ X.length) (ht : TextR X w) (e : w 0 10 = nI k) : ∃ k' w', k ≤ k' ∧ k' ≤ X.length ∧ m_X8_skips w = some w' ∧ w' 0 10 = nI k' ∧ FrK w w' ∧ (∀ j, j ≠ 10 → w' 0 j = w 0 j) ∧ (∀ h : k' < X.length, X[k'] ≠ 32) ∧ ∀ st l n, mp np X st l n k = mp np X st l n k' := by
  have := ht.2.2.1
  have hF := FUb
  exact r_skips np (X.length - k) FU k w (by omega) (by omega) ht e
theorem r_digit (np : Nat) {k lo hi : Nat} (hk : k ≤ X.length) (ht : TextR X w) (e : w 0 10 = nI k) (hlo : lo < 100) (hhi : hi < 100) : ∃ k1 w', k ≤ k1 ∧ k1 ≤ X.length ∧ FrK w w' ∧ (∀ j, j ≠ 10 → w' 0 j = w 0 j) ∧ (∀ st l n, mp np X st l n k = mp np X st l n k1) ∧ (∀ h : k1 < X.length, X[k1] ≠ 32) ∧ ((m_X8_digit (nI lo) (nI hi) w = some (-9, w') ∧ w' 0 10 = nI k1 ∧ ∀ h : k1 < X.length, ¬ (48 + lo ≤ X[k1] ∧ X[k1] ≤ 48 + hi)) ∨ (∃ h : k1 < X.length, m_X8_digit (nI lo) (nI hi) w = some (nI (X[k1] - 48), w') ∧ w' 0 10 = nI (k1 + 1) ∧ 48 + lo ≤ X[k1] ∧ X[k1] ≤ 48 + hi)) := by
  obtain ⟨k1, w1, a1, a2, a3, a4, a5, a6, a7, a8⟩ := r_skip np hk ht e
  have hl := ht.2.2.1
  have ht1 : TextR X w1 := text_x ht a5.x
  rw [m_X8_digit, a3, b_b]
  by_cases c : k1 < X.length
  · obtain ⟨ex, hx⟩ := tx_at ht1 c
    have ex' : w1 4 (w1 0 10).toNatClampNeg = nI X[k1] := by rw [a4, nI_clamp (by omega)]; exact ex
    rw [if_neg (by rw [ht1.1, a4, z_le (by omega) (by omega)]; omega), if_pos (by rw [a4]; exact ib_n (by omega) (by omega)), ex', nI_add, nI_add, r_in (by omega) (by omega), b_b, dn_nI (by omega)]
    by_cases g : 48 + lo ≤ X[k1] ∧ X[k1] ≤ 48 + hi
    · have e1 : wset w1 0 10 (w1 0 10 + nI 1) = wset w1 0 10 (nI (k1 + 1)) := by rw [a4, nI_add]
      have e2 : wset w1 0 10 (nI (k1 + 1)) 0 10 - nI 1 = nI k1 := by rw [wset_same, upd_s, z_sub (by omega), Nat.add_sub_cancel]
      refine ⟨k1, wset w1 0 10 (nI (k1 + 1)), a1, a2, a5.tr (FrK.s (Or.inl rfl)), fun j hj => by rw [wset_same, upd_n hj]; exact a6 j hj, a8, a7, Or.inr ⟨c, ?_, by rw [wset_same, upd_s], g.1, g.2⟩⟩
      rw [if_pos g, if_neg (by decide), e1, lt_eq, e2, if_pos (ib_n (by omega) (by omega)), nI_clamp (by omega), wset_ne (by omega), ex, z_sub (by omega)]
    · refine ⟨k1, w1, a1, a2, a5, a6, a8, a7, Or.inl ⟨?_, a4, fun _ => g⟩⟩
      rw [if_neg g, if_pos (by decide)]
  · refine ⟨k1, w1, a1, a2, a5, a6, a8, a7, Or.inl ⟨?_, a4, fun h => absurd h c⟩⟩
    rw [if_pos (by rw [ht1.1, a4, z_le (by omega) (by omega)]; omega)]
/-- what a try at a command tells -/
def CmdR (np : Nat) (X : List Nat) (k : Nat) (w : Wd) (r : Option (Int32 × Wd)) : Prop := (∃ e w', r = some (nI 0, w') ∧ FrK w w' ∧ e ≤ X.length ∧ w' 0 10 = nI e ∧ mp np X 0 0 0 k = .inl e) ∨ (∃ k2 c w', r = some (nI 1, w') ∧ FrK w w' ∧ k < k2 ∧ k2 ≤ X.length ∧ w' 0 10 = nI k2 ∧ w' 0 11 = nI c.1 ∧ w' 0 12 = nI c.2.1 ∧ w' 0 13 = nI c.2.2 ∧ (lqu c.1 || lal c.1) = true ∧ c.1 ≤ 255 ∧ c.2.1 ≤ 255 ∧ c.2.2 ≤ 255 ∧ mp np X 0 0 0 k = consC c (mp np X 0 0 0 k2))
theorem m9n : ¬ (0 : Int32) ≤ -9 := by decide
theorem m9l : (-9 : Int32) < 0 := by decide
theorem mp_bad1 {np l k1 lo hi : Nat} (h2 : k1 ≤ X.length) (h3 : ∀ h : k1 < X.length, X[k1] ≠ 32) (hb : ∀ h : k1 < X.length, ¬ (48 + lo ≤ X[k1] ∧ X[k1] ≤ 48 + hi)) (hok : ∀ x, okN np l x = true → 48 + lo ≤ x ∧ x ≤ 48 + hi) : mp np X 1 l 0 k1 = .inl k1 := by
  by_cases c : k1 < X.length
  · rw [mp_at c, if_neg (h3 c), if_neg (by omega), if_pos rfl, if_neg (fun q => hb c (hok _ q))]
  · rw [mp_end (by omega), if_neg (by omega)]
/-- a letter without a count -/
theorem r_cmd_alone {np k l lo hi : Nat} (hk : k < X.length) (ht : TextR X w) (e10 : w 0 10 = nI (k + 1)) (e11 : w 0 11 = nI l) (hl : l ≤ 255) (hal : lal l = true) (h32 : X[k] ≠ 32) (hXl : X[k] = l) (hlo : lo < 100) (hhi : hi < 100) (hok : ∀ x, okN np l x = true ↔ 48 + lo ≤ x ∧ x ≤ 48 + hi) : CmdR np X k w (m_X8_isCommand_j133 (nI 0) (nI lo) (nI hi) w) := by
  have hm : mp np X 0 0 0 k = mp np X 1 l 0 (k + 1) := by
    rw [mp_at hk, if_neg h32, if_pos rfl, if_pos (by rw [hXl, hal]; simp), hXl]
  obtain ⟨k1, w1, a1, a2, a3, a4, a5, a6, a7⟩ := r_digit np (k := k + 1) (lo := lo) (hi := hi) (by omega) ht e10 hlo hhi
  have hX := ht.2.2.1
  rw [m_X8_isCommand_j133]
  rcases a7 with ⟨b1, b2, b3⟩ | ⟨h, b1, b2, b3, b4⟩
  · left
    refine ⟨k1, wset w1 0 12 (-9), ?_, a3.tr (FrK.s (by omega)), a2, by rw [wset_same, upd_n (by omega)]; exact b2, ?_⟩
    · rw [b1, b_b, m_X8_isCommand_j136, lt_eq, if_neg (by show ¬ (0 : Int32) ≤ wset w1 0 12 (-9) 0 12; rw [wset_same, upd_s]; exact m9n)]
    · rw [hm, a5, mp_bad1 a2 a6 b3 (fun x q => (hok x).mp q)]
  · right
    have hx : X[k1] ≤ 255 := ht.2.2.2 _ (List.getElem_mem h)
    refine ⟨k1 + 1, (l, X[k1] - 48, 0), wset (wset w1 0 12 (nI (X[k1] - 48))) 0 13 (nI 0), ?_, (a3.tr (FrK.s (by omega))).tr (FrK.s (by omega)), by omega, by omega, by rw [wset_same, upd_n (by omega), wset_same, upd_n (by omega)]; exact b2, by rw [wset_same, upd_n (by omega), wset_same, upd_n (by omega), a4 11 (by omega)]; exact e11, by rw [wset_same, upd_n (by omega), wset_same, upd_s], by rw [wset_same, upd_s], by show (lqu l || lal l) = true; rw [hal]; simp, hl, by show X[k1] - 48 ≤ 255; omega, by show 0 ≤ 255; omega, ?_⟩
    · rw [b1, b_b, m_X8_isCommand_j136, lt_eq, if_pos (by show (0 : Int32) ≤ wset w1 0 12 (nI (X[k1] - 48)) 0 12; rw [wset_same, upd_s, z_0le (by omega)]; trivial), if_pos (by decide), m_X8_isCommand_j164, lt_eq, if_neg (by rw [wset_same, upd_s]; decide)]
    · rw [hm, a5, mp_at h, if_neg (a6 h), if_neg (by omega), if_pos rfl, if_pos ((hok _).mpr ⟨b3, b4⟩), if_pos hal]
/-- a letter that names a queue -/
theorem r_cmd_queue {np k l : Nat} (hk : k < X.length) (ht : TextR X w) (e10 : w 0 10 = nI (k + 1)) (e11 : w 0 11 = nI l) (hl : l ≤ 255) (hqu : lqu l = true) (h32 : X[k] ≠ 32) (hXl : X[k] = l) (hnp : 1 ≤ np ∧ np ≤ 8) : CmdR np X k w ((m_X8_digit (nI 1) (nI (np - 1)) w).bind fun o4 => m_X8_isCommand_j136 (nI 1) o4.1 o4.2) := by
  have nal : ¬ lal l = true := by
    unfold lqu at hqu
    unfold lal
    simp only [decide_eq_true_eq] at hqu ⊢
    omega
  have l119 : l ≠ 119 := by
    unfold lqu at hqu
    simp only [decide_eq_true_eq] at hqu
    omega
  have hok : ∀ x, okN np l x = true ↔ 48 + 1 ≤ x ∧ x ≤ 48 + (np - 1) := by
    intro x
    unfold okN
    rw [if_pos hqu, if_neg l119]
    simp only [decide_eq_true_eq]
    omega
  have hm : mp np X 0 0 0 k = mp np X 1 l 0 (k + 1) := by
    rw [mp_at hk, if_neg h32, if_pos rfl, if_pos (by rw [hXl, hqu]; simp), hXl]
  obtain ⟨k1, w1, a1, a2, a3, a4, a5, a6, a7⟩ := r_digit np (k := k + 1) (lo := 1) (hi := np - 1) (by omega) ht e10 (by omega) (by omega)
  have hX := ht.2.2.1
  rcases a7 with ⟨b1, b2, b3⟩ | ⟨h, b1, b2, b3, b4⟩
  · left
    refine ⟨k1, wset w1 0 12 (-9), ?_, a3.tr (FrK.s (by omega)), a2, by rw [wset_same, upd_n (by omega)]; exact b2, ?_⟩
    · rw [b1, b_b, m_X8_isCommand_j136, lt_eq, if_neg (by show ¬ (0 : Int32) ≤ wset w1 0 12 (-9) 0 12; rw [wset_same, upd_s]; exact m9n)]
    · rw [hm, a5, mp_bad1 a2 a6 b3 (fun x q => (hok x).mp q)]
  · have hx : X[k1] ≤ 255 := ht.2.2.2 _ (List.getElem_mem h)
    obtain ⟨w2, ew⟩ : ∃ w2, w2 = wset w1 0 12 (nI (X[k1] - 48)) := ⟨_, rfl⟩
    have f2 : FrK w w2 := by rw [ew]; exact a3.tr (FrK.s (by omega))
    have s2 : w2 0 = upd (w1 0) 12 (nI (X[k1] - 48)) := by rw [ew, wset_same]
    have ht2 : TextR X w2 := text_x ht f2.x
    obtain ⟨k2, w3, c1, c2, c3, c4, c5, c6, c7⟩ := r_digit np (k := k1 + 1) (lo := 1) (hi := 9) (by omega) ht2 (by rw [s2, upd_n (by omega)]; exact b2) (by omega) (by omega)
    have hm2 : mp np X 0 0 0 k = mp np X 2 l (X[k1] - 48) k2 := by
      rw [hm, a5, mp_at h, if_neg (a6 h), if_neg (by omega), if_pos rfl, if_pos ((hok _).mpr ⟨b3, b4⟩), if_neg nal, c5]
    have start : ∀ {r}, (m_X8_digit (nI 1) (nI 9) w2).bind (fun o2 => m_X8_isCommand_j164 o2.1 o2.2) = r → (m_X8_digit (nI 1) (nI (np - 1)) w).bind (fun o4 => m_X8_isCommand_j136 (nI 1) o4.1 o4.2) = r := by
      intro r hr
      rw [b1, b_b, m_X8_isCommand_j136, lt_eq, ← ew, if_pos (by show (0 : Int32) ≤ w2 0 12; rw [s2, upd_s, z_0le (by omega)]; trivial), if_neg (by decide)]
      exact hr
    rcases c7 with ⟨d1, d2, d3⟩ | ⟨h2, d1, d2, d3, d4⟩
    · left
      refine ⟨k2, wset w3 0 13 (-9), start ?_, (f2.tr c3).tr (FrK.s (by omega)), c2, by rw [wset_same, upd_n (by omega)]; exact d2, ?_⟩
      · rw [d1, b_b, m_X8_isCommand_j164, lt_eq, if_pos (by show wset w3 0 13 (-9) 0 13 < (0 : Int32); rw [wset_same, upd_s]; exact m9l)]
      · rw [hm2]
        by_cases q : k2 < X.length
        · rw [mp_at q, if_neg (c6 q), if_neg (by omega), if_neg (by omega), if_neg (d3 q)]
        · rw [mp_end (by omega), if_neg (by omega)]
    · right
      have hx2 : X[k2] ≤ 255 := ht.2.2.2 _ (List.getElem_mem h2)
      refine ⟨k2 + 1, (l, X[k1] - 48, X[k2] - 48), wset w3 0 13 (nI (X[k2] - 48)), start ?_, (f2.tr c3).tr (FrK.s (by omega)), by omega, by omega, by rw [wset_same, upd_n (by omega)]; exact d2, by rw [wset_same, upd_n (by omega), c4 11 (by omega), s2, upd_n (by omega), a4 11 (by omega)]; exact e11, by rw [wset_same, upd_n (by omega), c4 12 (by omega), s2, upd_s], by rw [wset_same, upd_s], by show (lqu l || lal l) = true; rw [hqu]; simp, hl, by show X[k1] - 48 ≤ 255; omega, by show X[k2] - 48 ≤ 255; omega, ?_⟩
      · rw [d1, b_b, m_X8_isCommand_j164, lt_eq, if_neg (by show ¬ wset w3 0 13 (nI (X[k2] - 48)) 0 13 < (0 : Int32); rw [wset_same, upd_s]; exact nn_nI (by omega))]
      · rw [hm2, mp_at h2, if_neg (c6 h2), if_neg (by omega), if_neg (by omega), if_pos ⟨by omega, by omega⟩]
theorem CmdR.mono {np k : Nat} {w w1 : Wd} {r : Option (Int32 × Wd)} (f : FrK w w1) (h : CmdR np X k w1 r) : CmdR np X k w r := by
  rcases h with ⟨e, w', a, b, c⟩ | ⟨k2, c, w', a, b, d⟩
  · exact Or.inl ⟨e, w', a, f.tr b, c⟩
  · exact Or.inr ⟨k2, c, w', a, f.tr b, d⟩
theorem r_isCommand {np k : Nat} (h : RepR T (w 1)) (enp : tt_nu T 0 = np) (hnp : 1 ≤ np ∧ np ≤ 8) (hk : k < X.length) (ht : TextR X w) (e10 : w 0 10 = nI k) (h32 : X[k] ≠ 32) : CmdR np X k w (m_X8_isCommand w) := by
  obtain ⟨ex, hx⟩ := tx_at ht hk
  have hX := ht.2.2.1
  obtain ⟨w1, ew⟩ : ∃ w1, w1 = wset w 0 11 (nI X[k]) := ⟨_, rfl⟩
  have f1 : FrK w w1 := by rw [ew]; exact FrK.s (by omega)
  have s1 : w1 0 = upd (w 0) 11 (nI X[k]) := by rw [ew, wset_same]
  have ex' : wset w 0 11 (w 4 (w 0 10).toNatClampNeg) = w1 := by rw [e10, nI_clamp (by omega), ex, ew]
  have e11 : w1 0 11 = nI X[k] := by rw [s1, upd_s]
  have e10' : w1 0 10 = nI k := by rw [s1, upd_n (by omega)]; exact e10
  refine CmdR.mono f1 ?_
  rw [m_X8_isCommand, if_pos (by rw [e10]; exact ib_n (by omega) (by omega)), ex', lt_eq]
  obtain ⟨w2, ew2⟩ : ∃ w2, w2 = wset w1 0 10 (nI (k + 1)) := ⟨_, rfl⟩
  have f2 : FrK w1 w2 := by rw [ew2]; exact FrK.s (by omega)
  have s2 : w2 0 = upd (w1 0) 10 (nI (k + 1)) := by rw [ew2, wset_same]
  have e2 : wset w1 0 10 (w1 0 10 + nI 1) = w2 := by rw [e10', nI_add, ew2]
  have ht2 : TextR X w2 := text_x (text_x ht f1.x) f2.x
  have e11' : w2 0 11 = nI X[k] := by rw [s2, upd_n (by omega)]; exact e11
  have e10'' : w2 0 10 = nI (k + 1) := by rw [s2, upd_s]
  have enpw : w2 1 (nI 0).toNatClampNeg - nI 1 = nI (np - 1) := by
    rw [nI_clamp (by omega), f2.1 1 (by omega), f1.1 1 (by omega), rr_nu h (by omega), enp, z_sub (by omega)]
  have qu : lqu X[k] = true → CmdR np X k w1 (m_X8_isCommand_j79 (nI 1) w1) := by
    intro hq
    rw [m_X8_isCommand_j79, e2, lt_eq, if_neg (by decide), if_pos (ib0 (by omega)), enpw]
    exact CmdR.mono f2 (r_cmd_queue hk ht2 e10'' e11' hx hq h32 rfl hnp)
  have ja : m_X8_isCommand_j49 w1 = m_X8_isCommand_j79 (nI 1) w1 := by
    rw [m_X8_isCommand_j49, m_X8_isCommand_j54, if_pos (by decide)]
  by_cases a : X[k] = 117
  · rw [if_pos (by rw [e11, a]), ja]
    exact qu (by unfold lqu; simp [a])
  rw [if_neg (by rw [e11, z_eq (by omega) (by omega)]; exact a)]
  by_cases b : X[k] = 100
  · rw [if_pos (by rw [e11, b]), ja]
    exact qu (by unfold lqu; simp [b])
  rw [if_neg (by rw [e11, z_eq (by omega) (by omega)]; exact b)]
  by_cases c : X[k] = 120
  · rw [if_pos (by rw [e11, c]), ja]
    exact qu (by unfold lqu; simp [c])
  rw [if_neg (by rw [e11, z_eq (by omega) (by omega)]; exact c)]
  by_cases d : X[k] = 121
  · rw [if_neg (by rw [e11, d]; exact fun q => q rfl), ja]
    exact qu (by unfold lqu; simp [d])
  rw [if_pos (by rw [e11, z_eq (by omega) (by omega)]; exact d), m_X8_isCommand_j54, if_neg (by decide)]
  have nq : lqu X[k] = false := by unfold lqu; simp [a, b, c, d]
  by_cases g : X[k] = 119
  · rw [if_pos (by rw [e11, g]), m_X8_isCommand_j79, e2, lt_eq, if_pos (by decide), if_neg (by rw [e11', g]; exact fun q => q rfl)]
    refine CmdR.mono f2 (r_cmd_alone hk ht2 e10'' e11' hx (by unfold lal; simp [g]) h32 rfl (by omega) (by omega) (fun x => ?_))
    unfold okN
    rw [nq, if_neg (by decide), if_pos g]
    simp only [decide_eq_true_eq]
    omega
  rw [if_neg (by rw [e11, z_eq (by omega) (by omega)]; exact g)]
  by_cases g2 : X[k] = 97
  · rw [if_pos (by rw [e11, g2]), m_X8_isCommand_j79, e2, lt_eq, if_pos (by decide), if_pos (by rw [e11', z_eq (by omega) (by omega)]; exact g), if_pos (ib0 (by omega)), enpw]
    refine CmdR.mono f2 (r_cmd_alone hk ht2 e10'' e11' hx (by unfold lal; simp [g2]) h32 rfl (by omega) (by omega) (fun x => ?_))
    unfold okN
    rw [nq, if_neg (by decide), if_neg g]
    simp only [decide_eq_true_eq]
    omega
  rw [if_neg (by rw [e11, z_eq (by omega) (by omega)]; exact g2)]
  left
  refine ⟨k, w1, rfl, FrK.rf, by omega, e10', ?_⟩
  rw [mp_at hk, if_neg h32, if_pos rfl, if_neg (by rw [nq]; unfold lal; simp [g, g2])]
end RSCRIPT
