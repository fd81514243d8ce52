/-! ===== the law's keep ===== -/
section LKEEP
variable {T : TT} {w : Wd}
theorem l_kp_L61 {b L q8 q10 N : Nat} (x6 : Int32) (kx : Wd → Option Wd) (hL : L ≤ 12) (hb : b + 13 ≤ 52) (hq : q10 ≠ 495) : ∀ (d n i : Nat) (w : Wd), i + d = L → d < n → ∃ w', m_L_keep_L61 N q8 q10 x6 (nI b) (nI L) kx n (nI i) w = kx w' ∧ (∀ k, w' q10 k = if i ≤ k ∧ k < L then w 495 (b + 1 + k) else w q10 k) ∧ ∀ a, a ≠ q10 → w' a = w a := by
  intro d
  induction d with
  | zero =>
    intro n i w hi hn
    obtain ⟨n, rfl⟩ : ∃ m, n = m + 1 := ⟨n - 1, by omega⟩
    exact ⟨w, by rw [m_L_keep_L61, if_pos (by rw [z_le (by omega) (by omega)]; omega)], fun k => by rw [if_neg (by omega)], fun _ _ => rfl⟩
  | succ d ih =>
    intro n i w hi hn
    obtain ⟨n, rfl⟩ : ∃ m, n = m + 1 := ⟨n - 1, by omega⟩
    obtain ⟨w1, e1⟩ : ∃ w1, w1 = wset w q10 i (w 495 (b + 1 + i)) := ⟨_, rfl⟩
    obtain ⟨w', a1, a2, a3⟩ := ih n (i + 1) w1 (by omega) (by omega)
    refine ⟨w', ?_, fun k => ?_, fun a ha => by rw [a3 a ha, e1, wset_ne ha]⟩
    · rw [m_L_keep_L61, if_neg (by rw [z_le (by omega) (by omega)]; omega), nI_add, nI_add, if_pos (by rw [z_ib (by omega)]; omega), if_pos (by rw [z_ib (by omega)]; omega), lt_eq, nI_clamp (by omega), nI_clamp (by omega), ← e1, nI_add]
      exact a1
    · have h495 : w1 495 = w 495 := by rw [e1, wset_ne (Ne.symm hq)]
      rw [a2 k, h495]
      by_cases c : k = i
      · subst c
        rw [if_neg (by omega), if_pos (by omega), e1, wset_same, upd_s]
      · by_cases c2 : i + 1 ≤ k ∧ k < L
        · rw [if_pos c2, if_pos (by omega)]
        · rw [if_neg c2, if_neg (by omega), e1, wset_same, upd_n c]
def goneOk (P : Nat → Nat) (ls : List Nat) (j g : Nat) : Prop := ((∀ i, j ≤ i → i < ls.length → fsq P ls i = false) ∧ g = 0) ∨ (j ≤ g ∧ g < ls.length ∧ fsq P ls g = true ∧ ∀ i, j ≤ i → i < g → fsq P ls i = false)
theorem gone_end {P : Nat → Nat} {ls : List Nat} {g : Nat} (h : goneOk P ls 0 g) : g = fsv P ls := by
  have hle := fa_first_le (fsq P ls) ls.length
  have hy := fa_first_yes (fsq P ls) ls.length
  have hn := fa_first_no (fsq P ls) ls.length
  unfold fsv
  generalize fa_first (fsq P ls) ls.length = f at *
  rcases h with ⟨h1, h2⟩ | ⟨h1, h2, h3, h4⟩
  · by_cases c : f < ls.length
    · have := h1 f (by omega) c
      rw [hy c] at this; cases this
    · rw [if_neg c]; exact h2
  · have a : ¬ f < g := fun q => by
      have := h4 f (by omega) q
      rw [hy (by omega)] at this; cases this
    have b : ¬ g < f := fun q => by
      have := hn g q
      rw [h3] at this; cases this
    rw [if_pos (by omega)]
    omega
def im1 (j : Nat) : Int32 := if j = 0 then -1 else nI (j - 1)
theorem im1_m1 {i : Nat} : nI i + (-1) = im1 i := by
  unfold im1
  by_cases c : i = 0
  · subst c; rw [if_pos rfl]; decide
  · rw [if_neg c, z_m1 (by omega)]
theorem l_kp_L118 {q8 q10 N : Nat} {x7 x9 : Int32} {P : Nat → Nat} {ls : List Nat} (kx : Int32 → Wd → Option Wd) (hP : RepO q8 w P) (hPb : ∀ o, o < 4 → P o ≤ 12) (hl : ls.length ≤ 13) (hr : ∀ k (hk : k < ls.length), w q10 k = nI (lu ls[k])) (hv : ∀ x ∈ ls, val12 x) : ∀ (j n g : Nat), j ≤ ls.length → j < n → goneOk P ls j g → m_L_keep_L118 N q8 q10 x7 x9 kx n (nI g) (im1 j) w = kx (nI (fsv P ls)) w := by
  intro j
  induction j with
  | zero =>
    intro n g hj hn hg
    obtain ⟨n, rfl⟩ : ∃ m, n = m + 1 := ⟨n - 1, by omega⟩
    rw [m_L_keep_L118, if_pos (by decide), gone_end hg]
  | succ j ih =>
    intro n g hj hn hg
    obtain ⟨n, rfl⟩ : ∃ m, n = m + 1 := ⟨n - 1, by omega⟩
    have hx : im1 (j + 1) = nI j := by unfold im1; rw [if_neg (by omega), Nat.add_sub_cancel]
    have hlt : j < ls.length := by omega
    have hvx := val12_lu (hv _ (List.getElem_mem hlt))
    have hge : ls.getD j 0 = ls[j] := by rw [List.getD_eq_getElem?_getD, List.getElem?_eq_getElem hlt]; rfl
    have hq : fsq P ls j = decide (ls[j] % 100 ≤ P (ls[j] / 100)) := by unfold fsq; rw [hge]
    have ib14 : ib (nI j) 14 := by rw [z_ib (by omega)]; omega
    have hw : w q10 (nI j).toNatClampNeg = nI (lu ls[j]) := by rw [nI_clamp (by omega)]; exact hr j hlt
    have hd : nI (lu ls[j]) / nI 16 = nI (ls[j] / 100) := by rw [pk_div (by omega) (by omega) (by omega), hvx.2.1]
    have hm : nI (lu ls[j]) - nI (ls[j] / 100) * nI 16 = nI (ls[j] % 100) := by
      rw [← hd, pk_rem (by omega) (by omega) (by omega), hvx.2.2.1]
    have hpb := hPb _ hvx.2.2.2.1
    have ho : w q8 (nI (ls[j] / 100)).toNatClampNeg = nI (P (ls[j] / 100)) := by rw [nI_clamp (by omega)]; exact hP _ hvx.2.2.2.1
    rw [hx, m_L_keep_L118, if_neg (nI_pos (by omega)), if_pos ib14, if_pos ib14, hw, hd, hm, if_pos (by rw [z_ib (by omega)]; exact hvx.2.2.2.1), ho]
    by_cases c : P (ls[j] / 100) < ls[j] % 100
    · rw [if_pos (by rw [z_lt (by omega) (by omega)]; exact c), m_L_keep_j152, im1_m1]
      have hqf : fsq P ls j = false := by rw [hq]; exact decide_eq_false (by omega)
      refine ih n g (by omega) (by omega) ?_
      rcases hg with ⟨h1, h2⟩ | ⟨h1, h2, h3, h4⟩
      · refine Or.inl ⟨fun i i1 i2 => ?_, h2⟩
        by_cases e : i = j
        · rw [e]; exact hqf
        · exact h1 i (by omega) i2
      · refine Or.inr ⟨by omega, h2, h3, fun i i1 i2 => ?_⟩
        by_cases e : i = j
        · rw [e]; exact hqf
        · exact h4 i (by omega) i2
    · rw [if_neg (by rw [z_lt (by omega) (by omega)]; exact c), m_L_keep_j152, im1_m1]
      have hqt : fsq P ls j = true := by rw [hq]; exact decide_eq_true (by omega)
      exact ih n j (by omega) (by omega) (Or.inr ⟨Nat.le_refl _, hlt, hqt, fun i i1 i2 => by omega⟩)
def goI (g : Nat) : Int32 := if g < 14 then nI g else -1
theorem goI_eq {i g : Nat} (hi : i < 14) : (nI i = goI g) = (i = g) := by
  unfold goI
  by_cases c : g < 14
  · rw [if_pos c, z_eq (by omega) (by omega)]
  · rw [if_neg c]
    refine propext ⟨fun e => ?_, fun e => by omega⟩
    have := nI_pos (n := i) (by omega)
    rw [e] at this
    exact absurd (by decide) this
theorem er_step {ls : List Nat} {i g : Nat} (hi : i < ls.length) : (ls.take (i + 1)).eraseIdx g = if i = g then (ls.take i).eraseIdx g else (ls.take i).eraseIdx g ++ [ls[i]] := by
  have ht : ls.take (i + 1) = ls.take i ++ [ls[i]] := List.take_succ_eq_append_getElem hi
  have hl : (ls.take i).length = i := by rw [List.length_take]; omega
  rw [ht]
  by_cases c : i = g
  · subst c
    rw [if_pos rfl, List.eraseIdx_append_of_length_le (by omega), hl, Nat.sub_self, List.eraseIdx_of_length_le (l := ls.take i) (by omega)]
    simp
  · rw [if_neg c]
    by_cases d : g < i
    · rw [List.eraseIdx_append_of_lt_length (by omega)]
    · rw [List.eraseIdx_of_length_le (l := ls.take i) (by omega), List.eraseIdx_of_length_le (by rw [List.length_append, hl]; show i + 1 ≤ g; omega)]
theorem er_len {ls : List Nat} {i g : Nat} (hi : i ≤ ls.length) : ((ls.take i).eraseIdx g).length = if g < i then i - 1 else i := by
  have hl : (ls.take i).length = i := by rw [List.length_take]; omega
  rw [List.length_eraseIdx, hl]
theorem l_kp_L176 {b q10 N g : Nat} {ls : List Nat} (hb : b + 13 ≤ 52) (hq : q10 ≠ 495) (hl : ls.length ≤ 12 ∨ ls.length = 13 ∧ g < 13) (hv : ∀ x ∈ ls, val12 x) : ∀ (d n i : Nat) (w : Wd), i + d = ls.length → d < n → (∀ k (hk : k < ls.length), w q10 k = nI (lu ls[k])) → RLr (w 495) b ((ls.take i).eraseIdx g) → ∃ w', m_L_keep_L176 N q10 (nI b) (nI ls.length) (goI g) n (nI i) w = some w' ∧ RLr (w' 495) b (ls.eraseIdx g) ∧ (∀ k, k < b ∨ b + 13 ≤ k → w' 495 k = w 495 k) ∧ ∀ a, a ≠ 495 → w' a = w a := by
  intro d
  induction d with
  | zero =>
    intro n i w hi hn hr hR
    obtain ⟨n, rfl⟩ : ∃ m, n = m + 1 := ⟨n - 1, by omega⟩
    rw [List.take_of_length_le (by omega)] at hR
    exact ⟨w, by rw [m_L_keep_L176, if_pos (by rw [z_le (by omega) (by omega)]; omega)], hR, fun _ _ => rfl, fun _ _ => rfl⟩
  | succ d ih =>
    intro n i w hi hn hr hR
    obtain ⟨n, rfl⟩ : ∃ m, n = m + 1 := ⟨n - 1, by omega⟩
    have hlt : i < ls.length := by omega
    have hst := er_step (g := g) hlt
    rw [m_L_keep_L176, if_neg (by rw [z_le (by omega) (by omega)]; omega)]
    by_cases c : i = g
    · rw [if_pos (by rw [goI_eq (by omega)]; exact c), m_L_keep_j212, nI_add]
      rw [if_pos c] at hst
      exact ih n (i + 1) w (by omega) (by omega) hr (by rw [hst]; exact hR)
    · rw [if_neg c] at hst
      have hel := er_len (ls := ls) (i := i) (g := g) (by omega)
      obtain ⟨l, el⟩ : ∃ l, l = (ls.take i).eraseIdx g := ⟨_, rfl⟩
      rw [← el] at hst hR hel
      have hl12 : l.length + 1 ≤ 12 := by
        rw [hel]
        split <;> omega
      have ib52 : ib (nI b) 52 := by rw [z_ib (by omega)]; omega
      have cl : (nI b).toNatClampNeg = b := nI_clamp (by omega)
      obtain ⟨w1, e1⟩ : ∃ w1, w1 = wset w 495 b (nI (l.length + 1)) := ⟨_, rfl⟩
      have f1 : w1 495 b = nI (l.length + 1) := by rw [e1, wset_same, upd_s]
      have f2 : w1 q10 (nI i).toNatClampNeg = nI (lu ls[i]) := by rw [nI_clamp (by omega), e1, wset_ne hq]; exact hr i hlt
      obtain ⟨w2, e2⟩ : ∃ w2, w2 = wset w1 495 (b + (l.length + 1)) (nI (lu ls[i])) := ⟨_, rfl⟩
      have h2 : w2 495 = upd (upd (w 495) b (nI (l.length + 1))) (b + (l.length + 1)) (nI (lu ls[i])) := by rw [e2, wset_same, e1, wset_same]
      have g2 : ∀ a, a ≠ 495 → w2 a = w a := fun a ha => by rw [e2, wset_ne ha, e1, wset_ne ha]
      obtain ⟨w', a1, a2, a3, a4⟩ := ih n (i + 1) w2 (by omega) (by omega) (fun k hk => by rw [g2 q10 hq]; exact hr k hk) (by rw [hst, h2]; exact rlr_app hR _)
      refine ⟨w', ?_, a2, fun k hk => ?_, fun a ha => (a4 a ha).trans (g2 a ha)⟩
      · rw [if_neg (by rw [goI_eq (by omega)]; exact c), if_pos ib52, if_pos ib52]
        simp only [cl, lt_eq, hR.1, nI_add]
        rw [← e1, if_pos ib52, if_pos (by rw [z_ib (by omega)]; omega), f1, nI_add, if_pos (by rw [z_ib (by omega)]; omega), f2, nI_clamp (by omega), ← e2, m_L_keep_j212, nI_add]
        exact a1
      · rw [a3 k hk, h2, upd_n (by omega), upd_n (by omega)]
theorem l_kp_j168 (h : RepL T w) (L : Len T) {p q10 N g : Nat} {ls : List Nat} (h1 : 1 ≤ p) (hp : p < 5) (hq : 497 ≤ q10) (hl : ls.length ≤ 12 ∨ ls.length = 13 ∧ g < 13) (hv : ∀ x ∈ ls, val12 x) (hr : ∀ k (hk : k < ls.length), w q10 k = nI (lu ls[k])) : ∃ w', m_L_keep_j168 N q10 (nI (13 * (p - 1))) (nI ls.length) (goI g) w = some w' ∧ RepL (ts_li T (va_up (tt_li T) p (ls.eraseIdx g))) w' ∧ ∀ a, a ≠ 495 → w' a = w a := by
  have hF := FUb
  obtain ⟨w1, e1⟩ : ∃ w1, w1 = wset w 495 (13 * (p - 1)) (nI 0) := ⟨_, rfl⟩
  obtain ⟨w', a1, a2, a3, a4⟩ := l_kp_L176 (b := 13 * (p - 1)) (q10 := q10) (N := N) (g := g) (ls := ls) (by omega) (by omega) hl hv ls.length FU 0 w1 (by omega) (by omega) (fun k hk => by rw [e1, wset_ne (by omega)]; exact hr k hk) (by
    rw [e1, wset_same]
    simp only [List.take_zero, List.eraseIdx_nil]
    exact ⟨by rw [upd_s]; rfl, fun k x hk => by simp at hk⟩)
  refine ⟨w', ?_, ?_, fun a ha => by rw [a4 a ha, e1, wset_ne ha]⟩
  · rw [m_L_keep_j168, if_pos (by rw [z_ib (by omega)]; omega), lt_eq, nI_clamp (by omega), ← e1]
    exact a1
  · have k := rl_set_li h L (r := 495) (d := 0) (c := p) (w' := w') (Or.inr (Or.inr ⟨rfl, rfl⟩)) h1 hp a2 (fun j hj => by rw [a3 j (by omega), e1, wset_same, upd_n (by omega)]) (fun j j1 j2 j3 => by rw [a4 j j3, e1, wset_ne j3])
    rw [Nat.zero_add] at k
    exact k
theorem va_va {α : Type} (f : Nat → α) (k : Nat) (x y : α) : va_up (va_up f k x) k y = va_up f k y := by
  funext j
  by_cases e : j = k
  · subst e; rw [up_s, up_s]
  · rw [up_n e, up_n e, up_n e]
theorem l_keep (h : RepL T w) (S : Sml T) (L : Len T) {p u N : Nat} (hp : p < 5) (hN : 497 ≤ N) (hM : tt_nu T 2 ≤ 12) (hroot : (tt_li T 0).length ≤ 48) (hv : ∀ x ∈ tt_li T p, val12 x) (hu : val12 u) : ∃ w', m_L_keep N (nI p) (nI (lu u)) w = some w' ∧ RepL (keep T p u) w' ∧ LFr N w w' := by
  have hF := FUb
  by_cases z : p = 0
  · subst z
    have hr := rl_ro h
    have ib50 : ib (nI 0) 50 := by decide
    have c0 : (nI 0).toNatClampNeg = 0 := nI_clamp (by omega)
    have ek : keep T 0 u = addLi T 0 u := by unfold keep; rw [if_pos (Or.inl rfl)]
    have f1 : wset w 496 0 (nI ((tt_li T 0).length + 1)) 496 0 = nI ((tt_li T 0).length + 1) := by rw [wset_same, upd_s]
    refine ⟨wset (wset w 496 0 (nI ((tt_li T 0).length + 1))) 496 ((tt_li T 0).length + 1) (nI (lu u)), ?_, ?_, (LFr.set (by omega) (Or.inl (by omega)) (by omega)).tr (LFr.set (by omega) (Or.inl (by omega)) (by omega))⟩
    · rw [m_L_keep, if_neg (by decide), if_pos ib50, if_pos ib50]
      simp only [c0, lt_eq, hr.1, nI_add]
      rw [if_pos ib50, f1, if_pos (by rw [z_ib (by omega)]; omega), nI_clamp (by omega)]
    · rw [ek]
      refine rl_set_ro h ?_ (fun k k1 k2 k3 => by rw [wset_ne k3, wset_ne k3])
      rw [wset_same, wset_same]
      have := rlr_app hr u
      rw [Nat.zero_add] at this
      exact this
  · have h1 : 1 ≤ p := by omega
    have hg := rl_ke h h1 hp
    have hl := L p h1 (by omega)
    obtain ⟨l, hll⟩ : ∃ l, l = tt_li T p := ⟨_, rfl⟩
    rw [← hll] at hg hl hv
    obtain ⟨w2, e2⟩ : ∃ w2, w2 = va_up w N (fun _ => 0) := ⟨_, rfl⟩
    have g2 : ∀ k, k ≠ N → w2 k = w k := fun k hk => by rw [e2]; exact up_n hk
    have h2 : RepL T w2 := rl_fr h (fun k _ hk => g2 k (by omega))
    obtain ⟨w3, a1, a2, a3⟩ := l_serve (q := N) h2 S (p := p) (by omega) (by omega) (by omega)
    obtain ⟨w6, e6⟩ : ∃ w6, w6 = va_up w3 (N + 1) (fun _ => 0) := ⟨_, rfl⟩
    have g6 : ∀ k, k ≠ N → k ≠ N + 1 → w6 k = w k := fun k k1 k2 => by rw [e6, up_n k2, a3 k k1, g2 k k1]
    have b0 : w3 495 (13 * (p - 1)) = nI l.length := by rw [a3 495 (by omega), g2 495 (by omega)]; exact hg.1
    obtain ⟨ls, els⟩ : ∃ ls, ls = l ++ [u] := ⟨_, rfl⟩
    have hlen : ls.length = l.length + 1 := by rw [els, List.length_append]; rfl
    have hvs : ∀ x ∈ ls, val12 x := by
      intro x hx
      rw [els, List.mem_append, List.mem_singleton] at hx
      rcases hx with hx | rfl
      · exact hv x hx
      · exact hu
    -- the row of copies
    have row : ∀ w7 : Wd, (∀ k, w7 (N + 1) k = if 0 ≤ k ∧ k < l.length then w6 495 (13 * (p - 1) + 1 + k) else w6 (N + 1) k) → ∀ k (hk : k < ls.length), wset w7 (N + 1) l.length (nI (lu u)) (N + 1) k = nI (lu ls[k]) := by
      intro w7 h7 k hk
      rw [wset_same]
      by_cases c : k = l.length
      · subst c
        rw [upd_s]
        simp only [els]
        rw [List.getElem_append_right (Nat.le_refl _)]
        simp
      · rw [upd_n c, h7, if_pos (by omega), g6 495 (by omega) (by omega), rlr_at hg (k := k) (by omega)]
        simp only [els]
        rw [List.getElem_append_left (by omega)]
    obtain ⟨w7, c1, c2, c3⟩ := l_kp_L61 (b := 13 * (p - 1)) (L := l.length) (q8 := N) (q10 := N + 1) (N := N + 1 + 1) (nI (lu u)) (fun w7 => if ib (nI l.length) 14 then lt (wset w7 (N + 1) (nI l.length).toNatClampNeg (nI (lu u))) fun w9 => if ib (nI 2) 24 then if (nI l.length + nI 1) ≤ (w9 490 (nI 2).toNatClampNeg) then m_L_keep_j168 (N + 1 + 1) (N + 1) (nI (13 * (p - 1))) (nI l.length + nI 1) (-1 : Int32) w9 else lt ((nI l.length + nI 1) - nI 1) fun x12_11 => m_L_keep_L118 (N + 1 + 1) N (N + 1) (nI (13 * (p - 1))) (nI l.length + nI 1) (fun x11_12 w13 => if ib (nI 6) 24 then if ib (nI 6) 24 then lt (wset w13 490 (nI 6).toNatClampNeg ((w13 490 (nI 6).toNatClampNeg) + (nI 1))) fun w16 => m_L_keep_j168 (N + 1 + 1) (N + 1) (nI (13 * (p - 1))) (nI l.length + nI 1) x11_12 w16 else none else none) FU (nI 0) x12_11 w9 else none else none) hl (by omega) (by omega) l.length FU 0 w6 (by omega) (by omega)
    have hrow := row w7 c2
    obtain ⟨w9, e9⟩ : ∃ w9, w9 = wset w7 (N + 1) l.length (nI (lu u)) := ⟨_, rfl⟩
    rw [← e9] at hrow
    have g9 : ∀ k, k ≠ N → k ≠ N + 1 → w9 k = w k := fun k k1 k2 => by rw [e9, wset_ne k2, c3 k k2, g6 k k1 k2]
    have h9 : RepL T w9 := rl_fr h (fun k _ hk => g9 k (by omega) (by omega))
    have n2 : w9 490 (nI 2).toNatClampNeg = nI (tt_nu T 2) := by rw [nI_clamp (by omega)]; exact rl_nu h9 (by omega)
    have cL : (nI l.length).toNatClampNeg = l.length := nI_clamp (by omega)
    have start : m_L_keep N (nI p) (nI (lu u)) w = (if (nI (l.length + 1)) ≤ nI (tt_nu T 2) then m_L_keep_j168 (N + 1 + 1) (N + 1) (nI (13 * (p - 1))) (nI (l.length + 1)) (-1 : Int32) w9 else m_L_keep_L118 (N + 1 + 1) N (N + 1) (nI (13 * (p - 1))) (nI (l.length + 1)) (fun x11_12 w13 => if ib (nI 6) 24 then if ib (nI 6) 24 then lt (wset w13 490 (nI 6).toNatClampNeg ((w13 490 (nI 6).toNatClampNeg) + (nI 1))) fun w16 => m_L_keep_j168 (N + 1 + 1) (N + 1) (nI (13 * (p - 1))) (nI (l.length + 1)) x11_12 w16 else none else none) FU (nI 0) (nI l.length) w9) := by
      rw [m_L_keep, if_pos (by rw [z_eq0 (by omega)]; exact z), e13 h1, lt_eq, lt_eq, ← e2, a1, b_b, if_pos (by rw [z_ib (by omega)]; omega), lt_eq, nI_clamp (by omega), b0, lt_eq, ← e6]
      refine c1.trans ?_
      rw [if_pos (by rw [z_ib (by omega)]; omega), lt_eq, cL, ← e9, if_pos (by decide), n2, lt_eq]
      simp only [nI_add]
      rw [z_sub (by omega), Nat.add_sub_cancel]
    have fr9 : LFr N w w9 := LFr.ne2 g9 (by omega) (Or.inr (Nat.le_refl _)) (by omega) (Or.inr (Nat.le_succ _))
    rw [start]
    by_cases c : l.length + 1 ≤ tt_nu T 2
    · have ek : keep T p u = ts_li T (va_up (tt_li T) p (ls.eraseIdx 99)) := by
        unfold keep
        rw [← hll, if_pos (Or.inr c), List.eraseIdx_of_length_le (by omega), els]
        unfold addLi
        rw [← hll]
      rw [if_pos (by rw [z_le (by omega) (by omega)]; exact c), ek]
      obtain ⟨w', d1, d2, d3⟩ := l_kp_j168 h9 L (N := N + 1 + 1) (q10 := N + 1) (g := 99) (ls := ls) h1 hp (by omega) (Or.inl (by omega)) hvs hrow
      rw [hlen] at d1
      exact ⟨w', d1, d2, fr9.tr (LFr.ne d3 (by omega) (Or.inl (by omega)))⟩
    · have hfl : fsv (pfx T p) ls < ls.length := fsv_lt (by omega)
      have ep : pfx (addLi T p u) p = pfx T p := pfx_c (T := addLi T p u) (T' := T) rfl rfl p
      have eal : tt_li (addLi T p u) p = ls := by
        show va_up (tt_li T) p (tt_li T p ++ [u]) p = ls
        rw [up_s, ← hll, els]
      have ek : keep T p u = ts_li (ts_nu T (va_up (tt_nu T) 6 (tt_nu T 6 + 1))) (va_up (tt_li T) p (ls.eraseIdx (fsv (pfx T p) ls))) := by
        unfold keep
        rw [← hll, if_neg (fun q => q.elim z c)]
        unfold evict
        rw [ep, eal]
        have : tt_li (addLi T p u) = va_up (tt_li T) p (tt_li T p ++ [u]) := rfl
        rw [this, va_va]
        rfl
      have hP9 : RepO N w9 (pfx T p) := by
        intro o ho
        rw [e9, wset_ne (by omega), c3 N (by omega), e6, up_n (by omega)]
        exact a2 o ho
      have hx : nI l.length = im1 ls.length := by rw [hlen]; unfold im1; rw [if_neg (by omega), Nat.add_sub_cancel]
      rw [if_neg (by rw [z_le (by omega) (by omega)]; exact c), hx, l_kp_L118 (ls := ls) _ hP9 (fun o ho => sml_12 S (by omega) ho) (by omega) hrow hvs ls.length FU 0 (Nat.le_refl _) (by omega) (Or.inl ⟨fun i i1 i2 => by omega, rfl⟩)]
      have n6 : w9 490 (nI 6).toNatClampNeg = nI (tt_nu T 6) := by rw [nI_clamp (by omega)]; exact rl_nu h9 (by omega)
      have c6 : (nI 6).toNatClampNeg = 6 := nI_clamp (by omega)
      rw [if_pos (by decide), if_pos (by decide), lt_eq, n6, c6, nI_add, ek]
      have h16 := rl_set_nu h9 (j := 6) (by omega) (tt_nu T 6 + 1)
      have hgo : nI (fsv (pfx T p) ls) = goI (fsv (pfx T p) ls) := by unfold goI; rw [if_pos (by omega)]
      obtain ⟨w', d1, d2, d3⟩ := l_kp_j168 h16 L (N := N + 1 + 1) (q10 := N + 1) (g := fsv (pfx T p) ls) (ls := ls) h1 hp (by omega) (by omega) hvs (fun k hk => by rw [wset_ne (by omega)]; exact hrow k hk)
      rw [hlen, ← hgo] at d1
      exact ⟨w', d1, d2, fr9.tr ((LFr.set (by omega) (Or.inl (by omega)) (by omega)).tr (LFr.ne d3 (by omega) (Or.inl (by omega))))⟩
end LKEEP
