/-! ===== the reference: saved states, and the calls that save ===== -/
def HistR (H : List TT) (w : Wd) : Prop := w 0 3 = nI H.length ∧ H.length ≤ 6 ∧ ∀ k (hk : k < H.length), RepR (H[k]) (fun j => w 2 (1423 * k + j)) ∧ InvQ (H[k])
def TextR (X : List Nat) (w : Wd) : Prop := w 0 5 = nI X.length ∧ RLn (nI X.length) (w 4) X ∧ X.length ≤ 100 ∧ ∀ x ∈ X, x ≤ 255
def FR (S : ST) (w : Wd) : Prop := RepR S.1 (w 1) ∧ InvQ S.1 ∧ HistR S.2.1 w ∧ TextR S.2.2 w
/-- T waits in the array aside -/
def HR (T : TT) (H : List TT) (X : List Nat) (w : Wd) : Prop := RepR T (w 3) ∧ InvQ T ∧ HistR H w ∧ TextR X w
theorem hist_w {H : List TT} {w w' : Wd} (h : HistR H w) (h2 : w' 2 = w 2) (h0 : w' 0 3 = w 0 3) : HistR H w' := by
  obtain ⟨a, b, c⟩ := h
  refine ⟨by rw [h0]; exact a, b, fun k hk => ⟨?_, (c k hk).2⟩⟩
  rw [h2]; exact (c k hk).1
theorem text_w {X : List Nat} {w w' : Wd} (h : TextR X w) (h4 : w' 4 = w 4) (h0 : w' 0 5 = w 0 5) : TextR X w' := by
  obtain ⟨a, b, c⟩ := h
  exact ⟨by rw [h0]; exact a, by rw [h4]; exact b, c⟩
theorem HR.w {T : TT} {H : List TT} {X : List Nat} {w w' : Wd} (h : HR T H X w) (f : FrW w w') : HR T H X w' := ⟨by rw [f.1 3 (by omega) (by omega) (by omega) (by omega)]; exact h.1, h.2.1, hist_w h.2.2.1 (f.1 2 (by omega) (by omega) (by omega) (by omega)) (f.2 3 (by omega)), text_w h.2.2.2 (f.1 4 (by omega) (by omega) (by omega) (by omega)) (f.2 5 (by omega))⟩
section RHIST
variable {S : ST} {w : Wd}
theorem r_hold_L : ∀ (d n k : Nat) (w : Wd), k + d = 1423 → d < n → ∃ w', m_X8_hold_L2 n (nI k) w = some w' ∧ (∀ j, j < 1423 → w' 3 j = if k ≤ j then w 1 j else w 3 j) ∧ ∀ i, i ≠ 3 → w' i = w i := by
  intro d
  induction d with
  | zero =>
    intro n k w hk hn
    obtain ⟨n, rfl⟩ : ∃ m, n = m + 1 := ⟨n - 1, by omega⟩
    refine ⟨w, ?_, fun j hj => by rw [if_neg (by omega)], fun _ _ => rfl⟩
    rw [m_X8_hold_L2, if_pos (by rw [z_le (by omega) (by omega)]; omega)]
  | succ d ih =>
    intro n k w hk hn
    obtain ⟨n, rfl⟩ : ∃ m, n = m + 1 := ⟨n - 1, by omega⟩
    obtain ⟨w', a, b, c⟩ := ih n (k + 1) (wset w 3 k (w 1 k)) (by omega) (by omega)
    have hib : ib (nI k) 1423 := ib_n (by omega) (by omega)
    refine ⟨w', ?_, fun j hj => ?_, fun i hi => by rw [c i hi, wset_ne hi]⟩
    · rw [m_X8_hold_L2, if_neg (by rw [z_le (by omega) (by omega)]; omega), if_pos hib, if_pos hib, nI_clamp (by omega), lt_eq, nI_add]
      exact a
    · rw [b j hj, wset_ne (show 1 ≠ 3 by omega), wset_same]
      by_cases e : k + 1 ≤ j
      · rw [if_pos e, if_pos (by omega)]
      · rw [if_neg e]
        by_cases g : j = k
        · subst g; rw [upd_s, if_pos (Nat.le_refl _)]
        · rw [upd_n g, if_neg (by omega)]
theorem r_hold (w : Wd) : ∃ w', m_X8_hold w = some w' ∧ (∀ j, j < 1423 → w' 3 j = w 1 j) ∧ ∀ i, i ≠ 3 → w' i = w i := by
  obtain ⟨w', a, b, c⟩ := r_hold_L 1423 FU 0 w (by omega) (by have := FUb; omega)
  exact ⟨w', a, fun j hj => by rw [b j hj, if_pos (Nat.zero_le _)], c⟩
theorem fr_hold (h : FR S w) : ∃ w', m_X8_hold w = some w' ∧ HR S.1 S.2.1 S.2.2 w' ∧ RepR S.1 (w' 1) := by
  obtain ⟨w', a, b, c⟩ := r_hold w
  refine ⟨w', a, ⟨rr_cong h.1 b, h.2.1, hist_w h.2.2.1 (c 2 (by omega)) (by rw [c 0 (by omega)]), text_w h.2.2.2 (c 4 (by omega)) (by rw [c 0 (by omega)])⟩, by rw [c 1 (by omega)]; exact h.1⟩
theorem r_e_L52 (x1 : Int32) (kx : Wd → Option (Int32 × Wd)) {m : Nat} (hm : m ≤ 5) : ∀ (d n k : Nat) (w : Wd), k + d = 1423 → d < n → w 0 3 = nI m → ∃ w', m_X8_ends_L52 x1 kx n (nI k) w = kx w' ∧ (∀ j, j < 1423 → w' 2 (1423 * m + j) = if k ≤ j then w 3 j else w 2 (1423 * m + j)) ∧ (∀ i, (i < 1423 * m ∨ 1423 * m + 1423 ≤ i) → w' 2 i = w 2 i) ∧ ∀ i, i ≠ 2 → w' i = w i := by
  intro d
  induction d with
  | zero =>
    intro n k w hk hn e
    obtain ⟨n, rfl⟩ : ∃ m, n = m + 1 := ⟨n - 1, by omega⟩
    refine ⟨w, ?_, fun j hj => by rw [if_neg (by omega)], fun _ _ => rfl, fun _ _ => rfl⟩
    rw [m_X8_ends_L52, if_pos (by rw [z_le (by omega) (by omega)]; omega)]
  | succ d ih =>
    intro n k w hk hn e
    obtain ⟨n, rfl⟩ : ∃ m, n = m + 1 := ⟨n - 1, by omega⟩
    obtain ⟨w1, ew⟩ : ∃ w1, w1 = wset w 2 (1423 * m + k) (w 3 k) := ⟨_, rfl⟩
    have s1 : w1 2 = upd (w 2) (1423 * m + k) (w 3 k) := by rw [ew, wset_same]
    have f1 : ∀ i, i ≠ 2 → w1 i = w i := fun i hi => by rw [ew, wset_ne hi]
    obtain ⟨w', a, b, c, f⟩ := ih n (k + 1) w1 (by omega) (by omega) (by rw [f1 0 (by omega)]; exact e)
    refine ⟨w', ?_, fun j hj => ?_, fun i hi => ?_, fun i hi => by rw [f i hi, f1 i hi]⟩
    · have ei : ((nI 1423) * (w 0 3)) + nI k = nI (1423 * m + k) := by rw [e, pk_mul, nI_add]
      rw [m_X8_ends_L52, if_neg (by rw [z_le (by omega) (by omega)]; omega), if_pos (ib_n (by omega) (by omega)), ei, if_pos (ib_n (by omega) (by omega)), nI_clamp (by omega), nI_clamp (by omega), ← ew, lt_eq, nI_add]
      exact a
    · rw [b j hj, f1 3 (by omega), s1]
      by_cases g : k + 1 ≤ j
      · rw [if_pos g, if_pos (by omega)]
      · rw [if_neg g]
        by_cases q : j = k
        · subst q; rw [upd_s, if_pos (Nat.le_refl _)]
        · rw [upd_n (by omega), if_neg (by omega)]
    · rw [c i hi, s1, upd_n (by omega)]
theorem r_e_L11 (x1 : Int32) (kx : Wd → Option (Int32 × Wd)) : ∀ (d n k : Nat) (w : Wd), k + d = 7115 → d < n → ∃ w', m_X8_ends_L11 x1 kx n (nI k) w = kx w' ∧ (∀ j, j < 7115 → w' 2 j = if k ≤ j then w 2 (j + 1423) else w 2 j) ∧ ∀ i, i ≠ 2 → w' i = w i := by
  intro d
  induction d with
  | zero =>
    intro n k w hk hn
    obtain ⟨n, rfl⟩ : ∃ m, n = m + 1 := ⟨n - 1, by omega⟩
    refine ⟨w, ?_, fun j hj => by rw [if_neg (by omega)], fun _ _ => rfl⟩
    rw [m_X8_ends_L11, if_pos (by rw [z_le (by omega) (by omega)]; omega)]
  | succ d ih =>
    intro n k w hk hn
    obtain ⟨n, rfl⟩ : ∃ m, n = m + 1 := ⟨n - 1, by omega⟩
    obtain ⟨w1, ew⟩ : ∃ w1, w1 = wset w 2 k (w 2 (k + 1423)) := ⟨_, rfl⟩
    have s1 : w1 2 = upd (w 2) k (w 2 (k + 1423)) := by rw [ew, wset_same]
    have f1 : ∀ i, i ≠ 2 → w1 i = w i := fun i hi => by rw [ew, wset_ne hi]
    obtain ⟨w', a, b, f⟩ := ih n (k + 1) w1 (by omega) (by omega)
    refine ⟨w', ?_, fun j hj => ?_, fun i hi => by rw [f i hi, f1 i hi]⟩
    · rw [m_X8_ends_L11, if_neg (by rw [z_le (by omega) (by omega)]; omega), nI_add, if_pos (ib_n (by omega) (by omega)), if_pos (ib_n (by omega) (by omega)), nI_clamp (by omega), nI_clamp (by omega), ← ew, lt_eq, nI_add]
      exact a
    · rw [b j hj, s1]
      by_cases g : k + 1 ≤ j
      · rw [if_pos g, if_pos (by omega), upd_n (by omega)]
      · rw [if_neg g]
        by_cases q : j = k
        · subst q; rw [upd_s, if_pos (Nat.le_refl _)]
        · rw [upd_n q, if_neg (by omega)]
theorem r_e_j50 {T : TT} {H : List TT} {X : List Nat} (h : HR T H X w) (hl : H.length ≤ 5) (a : Int32) : ∃ w', m_X8_ends_j50 a w = some (a, w') ∧ HistR (H ++ [T]) w' ∧ TextR X w' ∧ w' 1 = w 1 := by
  obtain ⟨h1, h2, ⟨g1, g2, g3⟩, h4⟩ := h
  have hF := FUb
  obtain ⟨w1, b1, b2, b3, b4⟩ := r_e_L52 a (fun w1 => lt (wset w1 0 3 ((w1 0 3) + (nI 1))) fun w2 => some (a, w2)) hl 1423 FU 0 w (by omega) (by omega) g1
  have e3 : w1 0 3 + nI 1 = nI (H.length + 1) := by rw [b4 0 (by omega), g1, nI_add]
  have hl2 : (H ++ [T]).length = H.length + 1 := by simp
  refine ⟨wset w1 0 3 (nI (H.length + 1)), ?_, ⟨by rw [wset_same, upd_s, hl2], by omega, fun k hk => ?_⟩, text_w h4 (by rw [wset_ne (by omega), b4 4 (by omega)]) (by rw [wset_same, upd_n (by omega), b4 0 (by omega)]), by rw [wset_ne (by omega), b4 1 (by omega)]⟩
  · rw [m_X8_ends_j50, b1, e3, lt_eq]
  · rw [wset_ne (by omega)]
    rw [hl2] at hk
    by_cases c : k < H.length
    · have eg : (H ++ [T])[k]'(by omega) = H[k] := List.getElem_append_left c
      rw [eg]
      exact ⟨rr_cong (g3 k c).1 (fun j hj => by rw [b3 _ (by omega)]), (g3 k c).2⟩
    · have ek : k = H.length := by omega
      subst ek
      have eg : (H ++ [T])[H.length]'(by omega) = T := by
        rw [List.getElem_append_right (Nat.le_refl _)]; simp
      rw [eg]
      exact ⟨rr_cong h1 (fun j hj => by rw [b2 j hj, if_pos (Nat.zero_le _)]), h2⟩
theorem r_ends {T : TT} {H : List TT} {X : List Nat} (h : HR T H X w) (a : Int32) : ∃ w', m_X8_ends a w = some (a, w') ∧ HistR (push H T) w' ∧ TextR X w' ∧ w' 1 = w 1 := by
  obtain ⟨h1, h2, ⟨g1, g2, g3⟩, h4⟩ := id h
  have hF := FUb
  rw [m_X8_ends, g1]
  unfold push
  by_cases c : H.length = 6
  · obtain ⟨w1, b1, b2, b3⟩ := r_e_L11 a (fun w1 => lt (wset w1 0 3 ((w1 0 3) - (nI 1))) fun w2 => m_X8_ends_j50 a w2) 7115 FU 0 w (by omega) (by omega)
    have e3 : w1 0 3 - nI 1 = nI 5 := by rw [b3 0 (by omega), g1, c]; decide
    have h' : HR T (H.drop 1) X (wset w1 0 3 (nI 5)) := by
      refine ⟨by rw [wset_ne (by omega), b3 3 (by omega)]; exact h1, h2, ⟨by rw [wset_same, upd_s, List.length_drop, c], by rw [List.length_drop]; omega, fun k hk => ?_⟩, text_w h4 (by rw [wset_ne (by omega), b3 4 (by omega)]) (by rw [wset_same, upd_n (by omega), b3 0 (by omega)])⟩
      rw [List.length_drop] at hk
      rw [wset_ne (by omega), List.getElem_drop]
      have := g3 (1 + k) (by omega)
      exact ⟨rr_cong this.1 (fun j hj => by rw [b2 _ (by omega), if_pos (Nat.zero_le _), show 1423 * k + j + 1423 = 1423 * (1 + k) + j by omega]), this.2⟩
    obtain ⟨w', d1, d2, d3, d4⟩ := r_e_j50 h' (by rw [List.length_drop]; omega) a
    rw [if_neg (by rw [c]; exact fun q => q rfl), if_pos c]
    refine ⟨w', ?_, d2, d3, by rw [d4, wset_ne (by omega), b3 1 (by omega)]⟩
    rw [b1, e3, lt_eq]; exact d1
  · rw [if_pos (by rw [z_eq (by omega) (by omega)]; exact c), if_neg c]
    exact r_e_j50 h (by omega) a
theorem fr_end {T T' : TT} {H : List TT} {X : List Nat} (h : HR T H X w) (r : RepR T' (w 1)) (q : InvQ T') (a : Int32) : ∃ w', m_X8_ends a w = some (a, w') ∧ FR (T', push H T, X) w' := by
  obtain ⟨w', a1, a2, a3, a4⟩ := r_ends h a
  exact ⟨w', a1, by show RepR T' (w' 1); rw [a4]; exact r, q, a2, a3⟩
theorem fr_close (h : FR S w) (op : Wd → Option (Int32 × Wd)) (r : Int32 × TT) (hop : ∀ w1, RepR S.1 (w1 1) → ∃ w2, op w1 = some (r.1, w2) ∧ RepR r.2 (w2 1) ∧ FrW w1 w2) (hq : InvQ r.2) : ∃ w', ((m_X8_hold w).bind fun o1 => (op o1).bind fun o2 => (m_X8_closes o2.1 o2.2).bind fun o3 => some (o3.1, o3.2)) = some ((closeS S r).1, w') ∧ FR (closeS S r).2 w' := by
  obtain ⟨w1, a1, a2, a3⟩ := fr_hold h
  obtain ⟨w2, b1, b2, b3⟩ := hop w1 a3
  have h2 := a2.w b3
  rw [a1, b_b, b1, b_b]
  dsimp only
  rw [m_X8_closes]
  unfold closeS
  by_cases c : r.1 < 0
  · rw [if_neg (fa_of_lt c).2.1, b_b, if_pos c]
    exact ⟨w2, rfl, b2, hq, h2.2.2.1, h2.2.2.2⟩
  · obtain ⟨w3, c1, c2⟩ := fr_end h2 b2 hq r.1
    rw [if_pos (Int32.not_lt.mp c), c1, b_b, b_b, if_neg c]
    exact ⟨w3, rfl, c2⟩
theorem g_write (h : FR S w) (x : Int32) : ∃ w', m_X8_write x w = some ((o_write S x).1, w') ∧ FR (o_write S x).2 w' :=
  fr_close h (m_X8_makes x) _ (fun w1 r => by obtain ⟨w2, a, b, c⟩ := r_makes r h.2.1.1 x; exact ⟨w2, a, b, c.w⟩) (iq_write h.2.1 _)
theorem g_deliver (h : FR S w) (x y z : Int32) : ∃ w', m_X8_deliver x y z w = some ((o_deliver S x y z).1, w') ∧ FR (o_deliver S x y z).2 w' :=
  fr_close h (m_X8_delivers x y z) _ (fun w1 r => by obtain ⟨w2, a, b, c⟩ := r_delivers r h.2.1.1 x y z; exact ⟨w2, a, b, c.w⟩) (iq_deliver h.2.1 _ _ _)
theorem g_lose (h : FR S w) (x y z : Int32) : ∃ w', m_X8_lose x y z w = some ((o_lose S x y z).1, w') ∧ FR (o_lose S x y z).2 w' :=
  fr_close h (m_X8_loses x y z) _ (fun w1 r => by obtain ⟨w2, a, b, c⟩ := r_loses r h.2.1.1 x y z; exact ⟨w2, a, b, c.w⟩) (iq_lose h.2.1 _ _ _)
theorem g_ask (h : FR S w) (x : Int32) : ∃ w', m_X8_ask x w = some ((o_ask S x).1, w') ∧ FR (o_ask S x).2 w' :=
  fr_close h (m_X8_asks x) _ (fun w1 r => r_asks r h.2.1.1 x) (iq_ask h.2.1 _)
theorem m1n : (-1 : Int32) < 0 := by decide
theorem m2n : (-2 : Int32) < 0 := by decide
theorem m3n : (-3 : Int32) < 0 := by decide
theorem nn_nI {n : Nat} (h : n < 2 ^ 31) : ¬ nI n < (0 : Int32) := nI_pos h
theorem g_add (h : FR S w) (x : Int32) : ∃ w', m_X8_addProxy x w = some ((o_add S x).1, w') ∧ FR (o_add S x).2 w' := by
  have hnp := it_np h.2.1.1.B
  have iq := iq_addProxy h.2.1 (dn x)
  rw [m_X8_addProxy, r_isProxy h.1 h.2.1.1.B, b_b]
  unfold o_add closeS
  by_cases c : dn x < tt_nu S.1 0
  · have ex := dn_lt c (by omega)
    rw [if_pos c, if_pos (by decide), if_pos (ib0 (by omega))]
    by_cases d : tt_nu S.1 0 < 8
    · have es : sp_addProxy S.1 (dn x) = (nI (tt_nu S.1 0), ts_nu (ts_pa S.1 (va_up (tt_pa S.1) (tt_nu S.1 0) (dn x))) (va_up (tt_nu S.1) 0 (tt_nu S.1 0 + 1))) := by rw [sp_addProxy, if_pos c, if_pos d]
      obtain ⟨w1, a1, a2, a3⟩ := fr_hold h
      have e0 : w1 1 (nI 0).toNatClampNeg = nI (tt_nu S.1 0) := by rw [nI_clamp (by omega), rr_nu a3 (by omega)]
      rw [es] at iq ⊢
      rw [if_pos (by rw [nI_clamp (by omega), rr_nu h.1 (by omega), z_eq (by omega) (by omega)]; omega), a1, b_b, if_pos (ib0 (by omega)), e0, lt_eq, nI_add, if_pos (ib_n (by omega) (by omega)), nI_clamp (show 7 + tt_nu S.1 0 < 2 ^ 31 by omega)]
      have h2 := rr_set_pa a3 (p := tt_nu S.1 0) (by omega) d (dn x)
      rw [← ex, ← w1_set] at h2
      obtain ⟨w2, e2⟩ : ∃ w2, w2 = wset w1 1 (7 + tt_nu S.1 0) x := ⟨_, rfl⟩
      rw [← e2] at h2 ⊢
      have h3 := rr_set_nu h2 (j := 0) (by omega) (tt_nu S.1 0 + 1)
      rw [← w1_set] at h3
      have e3 : wset w2 1 (nI 0).toNatClampNeg (w2 1 (nI 0).toNatClampNeg + nI 1) = wset w2 1 0 (nI (tt_nu S.1 0 + 1)) := by
        rw [nI_clamp (by omega), rr_nu h2 (by omega)]
        show wset w2 1 0 (nI (tt_nu S.1 0) + nI 1) = _
        rw [nI_add]
      have fr : FrW w1 (wset w2 1 0 (nI (tt_nu S.1 0 + 1))) := by rw [e2]; exact ((FrR.s (Or.inl rfl)).tr (FrR.s (Or.inl rfl))).w
      obtain ⟨w4, b1, b2⟩ := fr_end (a2.w fr) h3 iq (nI (tt_nu S.1 0))
      rw [lt_eq, if_pos (ib0 (by omega)), if_pos (ib0 (by omega)), e3, lt_eq, b1, b_b, if_neg (nn_nI (by omega))]
      exact ⟨w4, rfl, b2⟩
    · have es : sp_addProxy S.1 (dn x) = (-3, S.1) := by rw [sp_addProxy, if_pos c, if_neg d]
      rw [if_neg (by rw [nI_clamp (by omega), rr_nu h.1 (by omega), z_eq (by omega) (by omega)]; omega), es, if_pos m3n]
      exact ⟨w, rfl, h⟩
  · have es : sp_addProxy S.1 (dn x) = (-1, S.1) := if_neg c
    rw [if_neg c, if_neg (by decide), es, if_pos m1n]
    exact ⟨w, rfl, h⟩
theorem g_home (h : FR S w) (x y : Int32) : ∃ w', m_X8_setHome x y w = some ((o_home S x y).1, w') ∧ FR (o_home S x y).2 w' := by
  have hnp := it_np h.2.1.1.B
  have iq := iq_setHome h.2.1 (dn x) (dn y)
  have bad : ¬ (dn x < 4 ∧ dn y < tt_nu S.1 0) → ∃ w', some ((-1 : Int32), w) = some ((o_home S x y).1, w') ∧ FR (o_home S x y).2 w' := by
    intro hab
    have es : sp_setHome S.1 (dn x) (dn y) = (-1, S.1) := if_neg hab
    unfold o_home closeS
    rw [es, if_pos m1n]
    exact ⟨w, rfl, h⟩
  rw [m_X8_setHome, r_isOrigin, b_b, r_isProxy h.1 h.2.1.1.B, b_b]
  by_cases c : dn x < 4
  · rw [if_pos c, if_neg (by decide)]
    by_cases d : dn y < tt_nu S.1 0
    · have ex := dn_lt c (by omega)
      have ey := dn_lt d (by omega)
      have h24 := it_wr h.2.1.1 c
      have hho := h.2.1.1.2.2.2.2.1 (dn x) c
      unfold o_home closeS
      generalize dn x = o at *
      generalize dn y = p at *
      subst ex; subst ey
      rw [if_pos d, if_pos (by decide), nI_add, if_pos (ib_n (by omega) (by omega))]
      by_cases g : 0 < tt_wr S.1 o
      · have es : sp_setHome S.1 o p = (-2, S.1) := by rw [sp_setHome, if_pos ⟨c, d⟩, if_pos g]
        rw [if_neg (by rw [nI_clamp (by omega), rr_wr h.1 c, z_le0 (by omega)]; omega), es, if_pos m2n]
        exact ⟨w, rfl, h⟩
      · have es : sp_setHome S.1 o p = (nI (tt_ho S.1 o), ts_ho S.1 (va_up (tt_ho S.1) o p)) := by rw [sp_setHome, if_pos ⟨c, d⟩, if_neg g]
        rw [es] at iq ⊢
        obtain ⟨w1, a1, a2, a3⟩ := fr_hold h
        have e0 : w1 1 (nI (15 + o)).toNatClampNeg = nI (tt_ho S.1 o) := by rw [nI_clamp (by omega), rr_ho a3 c]
        have h2 := rr_set_ho a3 c p
        rw [← w1_set] at h2
        obtain ⟨w4, b1, b2⟩ := fr_end (a2.w (FrR.s (Or.inl rfl)).w) h2 iq (nI (tt_ho S.1 o))
        rw [if_pos (by rw [nI_clamp (by omega), rr_wr h.1 c, z_le0 (by omega)]; omega), a1, b_b, nI_add, if_pos (ib_n (by omega) (by omega)), e0, lt_eq, if_pos (ib_n (by omega) (by omega)), nI_clamp (by omega), lt_eq, b1, b_b, if_neg (nn_nI (by omega))]
        exact ⟨w4, rfl, b2⟩
    · rw [if_neg d, if_neg (by decide)]
      exact bad (fun q => d q.2)
  · rw [if_neg c, if_pos (by decide)]
    exact bad (fun q => c q.1)
theorem g_lim (h : FR S w) (x y : Int32) : ∃ w', m_X8_setLimits x y w = some ((o_lim S x y).1, w') ∧ FR (o_lim S x y).2 w' := by
  have hrl := h.2.1.1.2.1
  have hme := h.2.1.1.2.2.1
  have iq := iq_setLimits h.2.1 (dn x) (dn y)
  have bad : ¬ (dn x ≤ 8 ∧ 1 ≤ dn y ∧ dn y ≤ 12) → ∃ w', some ((-1 : Int32), w) = some ((o_lim S x y).1, w') ∧ FR (o_lim S x y).2 w' := by
    intro hab
    have es : sp_setLimits S.1 (dn x) (dn y) = (-1, S.1) := if_neg hab
    unfold o_lim closeS
    rw [es, if_pos m1n]
    exact ⟨w, rfl, h⟩
  rw [m_X8_setLimits, r_in (by omega) (by omega), b_b, r_in (by omega) (by omega), b_b]
  by_cases c : dn x ≤ 8
  · rw [if_pos (show 0 ≤ dn x ∧ dn x ≤ 8 from ⟨Nat.zero_le _, c⟩), if_neg (by decide)]
    by_cases d : 1 ≤ dn y ∧ dn y ≤ 12
    · have ex := dn_lt (Nat.lt_succ_of_le c) (by omega)
      have ey := dn_lt (Nat.lt_succ_of_le d.2) (by omega)
      unfold o_lim closeS
      generalize dn x = a at *
      generalize dn y = m at *
      subst ex; subst ey
      have es : sp_setLimits S.1 a m = (nI (if a = tt_nu S.1 1 ∧ m = tt_nu S.1 2 then 0 else 1), ts_nu S.1 (va_up (va_up (tt_nu S.1) 1 a) 2 m)) := by rw [sp_setLimits, if_pos ⟨c, d⟩]
      rw [es] at iq ⊢
      obtain ⟨w1, a1, a2, a3⟩ := fr_hold h
      have h2 := rr_set_nu (rr_set_nu a3 (j := 1) (by omega) a) (j := 2) (by omega) m
      rw [← w1_set, ← w1_set] at h2
      have fr : FrW w1 (wset (wset w1 1 1 (nI a)) 1 2 (nI m)) := ((FrR.s (Or.inl rfl)).tr (FrR.s (Or.inl rfl))).w
      have j51 : ∀ s0 : Nat, s0 ≤ 1 → ∃ w', m_X8_setLimits_j51 (nI a) (nI m) (nI s0) w1 = some (nI s0, w') ∧ FR (ts_nu S.1 (va_up (va_up (tt_nu S.1) 1 a) 2 m), push S.2.1 S.1, S.2.2) w' := by
        intro s0 hs
        obtain ⟨w4, b1, b2⟩ := fr_end (a2.w fr) h2 iq (nI s0)
        refine ⟨w4, ?_, b2⟩
        rw [m_X8_setLimits_j51, if_pos (ib_n (by omega) (by omega)), nI_clamp (show 1 < 2 ^ 31 by omega), lt_eq, if_pos (ib_n (by omega) (by omega)), nI_clamp (show 2 < 2 ^ 31 by omega), lt_eq, m_X8_setLimits_j76, m_X8_setLimits_j76]
        rcases (show s0 = 0 ∨ s0 = 1 by omega) with rfl | rfl
        · rw [if_pos (by decide), b1, b_b]
        · rw [if_neg (by decide), b1, b_b]
      rw [if_pos d, if_pos (by decide), a1, b_b, if_pos (ib_n (by omega) (by omega)), m_X8_setLimits_j46]
      by_cases k : a = tt_nu S.1 1
      · rw [if_neg (by rw [nI_clamp (by omega), rr_nu a3 (by omega), k]; exact fun q => q rfl), if_pos (ib_n (by omega) (by omega))]
        by_cases k2 : m = tt_nu S.1 2
        · obtain ⟨w4, b1, b2⟩ := j51 0 (by omega)
          have e0 : (if a = tt_nu S.1 1 ∧ m = tt_nu S.1 2 then 0 else 1) = 0 := if_pos ⟨k, k2⟩
          rw [if_pos (by rw [nI_clamp (by omega), rr_nu a3 (by omega), k2]), b1, e0, if_neg (nn_nI (by omega))]
          exact ⟨w4, rfl, b2⟩
        · obtain ⟨w4, b1, b2⟩ := j51 1 (by omega)
          have e0 : (if a = tt_nu S.1 1 ∧ m = tt_nu S.1 2 then 0 else 1) = 1 := if_neg (fun q => k2 q.2)
          rw [if_neg (by rw [nI_clamp (by omega), rr_nu a3 (by omega), z_eq (by omega) (by omega)]; exact fun q => k2 q.symm), b1, e0, if_neg (nn_nI (by omega))]
          exact ⟨w4, rfl, b2⟩
      · obtain ⟨w4, b1, b2⟩ := j51 1 (by omega)
        have e0 : (if a = tt_nu S.1 1 ∧ m = tt_nu S.1 2 then 0 else 1) = 1 := if_neg (fun q => k q.1)
        rw [if_pos (by rw [nI_clamp (by omega), rr_nu a3 (by omega), z_eq (by omega) (by omega)]; exact fun q => k q.symm), b1, e0, if_neg (nn_nI (by omega))]
        exact ⟨w4, rfl, b2⟩
    · rw [if_neg d, if_neg (by decide)]
      exact bad (fun q => d q.2)
  · rw [if_neg (show ¬ (0 ≤ dn x ∧ dn x ≤ 8) from fun q => c q.2), if_pos (by decide)]
    exact bad (fun q => c q.1)
theorem r_u_L22 (kx : Wd → Option (Int32 × Wd)) {m : Nat} (hm : m ≤ 5) : ∀ (d n k : Nat) (w : Wd), k + d = 1423 → d < n → w 0 3 = nI m → ∃ w', m_X8_undo_L22 kx n (nI k) w = kx w' ∧ (∀ j, j < 1423 → w' 1 j = if k ≤ j then w 2 (1423 * m + j) else w 1 j) ∧ ∀ i, i ≠ 1 → w' i = w i := by
  intro d
  induction d with
  | zero =>
    intro n k w hk hn e
    obtain ⟨n, rfl⟩ : ∃ m, n = m + 1 := ⟨n - 1, by omega⟩
    refine ⟨w, ?_, fun j hj => by rw [if_neg (by omega)], fun _ _ => rfl⟩
    rw [m_X8_undo_L22, if_pos (by rw [z_le (by omega) (by omega)]; omega)]
  | succ d ih =>
    intro n k w hk hn e
    obtain ⟨n, rfl⟩ : ∃ m, n = m + 1 := ⟨n - 1, by omega⟩
    obtain ⟨w1, ew⟩ : ∃ w1, w1 = wset w 1 k (w 2 (1423 * m + k)) := ⟨_, rfl⟩
    have s1 : w1 1 = upd (w 1) k (w 2 (1423 * m + k)) := by rw [ew, w1_set]
    have f1 : ∀ i, i ≠ 1 → w1 i = w i := fun i hi => by rw [ew, wset_ne hi]
    obtain ⟨w', a, b, f⟩ := ih n (k + 1) w1 (by omega) (by omega) (by rw [f1 0 (by omega)]; exact e)
    refine ⟨w', ?_, fun j hj => ?_, fun i hi => by rw [f i hi, f1 i hi]⟩
    · have ei : ((nI 1423) * (w 0 3)) + nI k = nI (1423 * m + k) := by rw [e, pk_mul, nI_add]
      rw [m_X8_undo_L22, if_neg (by rw [z_le (by omega) (by omega)]; omega), ei, if_pos (ib_n (by omega) (by omega)), if_pos (ib_n (by omega) (by omega)), nI_clamp (by omega), nI_clamp (by omega), ← ew, lt_eq, nI_add]
      exact a
    · rw [b j hj, f1 2 (by omega), s1]
      by_cases g : k + 1 ≤ j
      · rw [if_pos g, if_pos (by omega)]
      · rw [if_neg g]
        by_cases q : j = k
        · subst q; rw [upd_s, if_pos (Nat.le_refl _)]
        · rw [upd_n q, if_neg (by omega)]
theorem g_undo (h : FR S w) : ∃ w', m_X8_undo w = some ((o_undo S).1, w') ∧ FR (o_undo S).2 w' := by
  obtain ⟨T, H, X⟩ := S
  obtain ⟨h1, h2, ⟨g1, g2, g3⟩, h4⟩ := id h
  have hF := FUb
  dsimp only at h1 h2 g1 g2 g3 h4
  rw [m_X8_undo, g1]
  unfold o_undo
  dsimp only
  by_cases c : H.length = 0
  · rw [if_neg (by rw [c]; exact fun q => q rfl), if_pos c]
    exact ⟨w, rfl, h⟩
  · rw [if_pos (by rw [z_eq0 (by omega)]; exact c), if_neg c, z_sub (by omega), lt_eq]
    obtain ⟨w1, b1, b2, b3⟩ := r_u_L22 (fun w2 => some ((w2 0 3), w2)) (m := H.length - 1) (by omega) 1423 FU 0 (wset w 0 3 (nI (H.length - 1))) (by omega) (by omega) (by rw [wset_same, upd_s])
    have el : H.getD (H.length - 1) T = H[H.length - 1]'(by omega) := by
      rw [List.getD_eq_getElem?_getD, List.getElem?_eq_getElem (by omega)]; rfl
    have last := g3 (H.length - 1) (by omega)
    have e0 : w1 0 = upd (w 0) 3 (nI (H.length - 1)) := by rw [b3 0 (by omega), wset_same]
    rw [b1, el]
    refine ⟨w1, by rw [e0, upd_s], ?_, last.2, ⟨by rw [e0, upd_s, List.length_dropLast], by rw [List.length_dropLast]; omega, fun k hk => ?_⟩, text_w h4 (by rw [b3 4 (by omega), wset_ne (by omega)]) (by rw [e0, upd_n (by omega)])⟩
    · exact rr_cong last.1 (fun j hj => by rw [b2 j hj, if_pos (Nat.zero_le _), wset_ne (by omega)])
    · rw [List.length_dropLast] at hk
      have eg : H.dropLast[k]'(by rw [List.length_dropLast]; exact hk) = H[k]'(by omega) := List.getElem_dropLast _
      show RepR (H.dropLast[k]) (fun j => w1 2 (1423 * k + j)) ∧ InvQ (H.dropLast[k])
      rw [eg, b3 2 (by omega), wset_ne (by omega)]
      exact g3 k (by omega)
end RHIST
