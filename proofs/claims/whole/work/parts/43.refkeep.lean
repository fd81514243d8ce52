/-! ===== the reference: keeping and passing on ===== -/
section RKEEP
variable {T : TT} {w : Wd}
theorem w1_set (w : Wd) (j : Nat) (x : Int32) : wset w 1 j x 1 = upd (w 1) j x := wset_same w 1 j x
theorem ix3 (p k : Nat) : ((nI 447) + ((nI 96) * nI p)) + nI k = nI (447 + 96 * p + k) := by rw [pk_mul, nI_add, nI_add]
theorem ib_n {a n : Nat} (h : a < n) (ha : a < 2 ^ 31) : ib (nI a) n := by rw [z_ib ha]; exact h
theorem r_keptPlace (h : RepR T (w 1)) {p u : Nat} (hp : p < 8) (hu : u < 2 ^ 31) (hv : ∀ y ∈ tt_li T p, y < 2 ^ 31) : ∃ x, m_X8_keptPlace (nI p) (nI u) w = some x ∧ (x < 0 ↔ u ∉ tt_li T p) := by
  have hl := rr_co h hp
  have h96 := rr_col h hp
  have key : ∀ (d n k : Nat) (x : Int32), k + d = (tt_li T p).length → d < n → ∃ y, m_X8_keptPlace_L6 (nI p) (nI u) w n x (nI k) = some y ∧ (y < 0 ↔ x < 0 ∧ u ∉ (tt_li T p).drop k) := by
    intro d
    induction d with
    | zero =>
      intro n k x hk hn
      obtain ⟨n, rfl⟩ : ∃ m, n = m + 1 := ⟨n - 1, by omega⟩
      have e : (tt_li T p).drop k = [] := List.drop_eq_nil_of_le (by omega)
      refine ⟨x, ?_, by rw [e]; simp⟩
      rw [m_X8_keptPlace_L6, nI_add, if_pos (ib_n (by omega) (by omega)), if_pos (by rw [nI_clamp (by omega), hl.1, z_le (by omega) (by omega)]; omega)]
    | succ d ih =>
      intro n k x hk hn
      obtain ⟨n, rfl⟩ : ∃ m, n = m + 1 := ⟨n - 1, by omega⟩
      have hlt : k < (tt_li T p).length := by omega
      have hd : (tt_li T p).drop k = (tt_li T p)[k] :: (tt_li T p).drop (k + 1) := List.drop_eq_getElem_cons hlt
      have hy := hv _ (List.getElem_mem hlt)
      have at_ : w 1 (447 + 96 * p + k) = nI ((tt_li T p)[k]) := rl_at hl hlt
      rw [m_X8_keptPlace_L6, nI_add, if_pos (ib_n (by omega) (by omega)), if_neg (by rw [nI_clamp (by omega), hl.1, z_le (by omega) (by omega)]; omega), ix3, if_pos (ib_n (by omega) (by omega))]
      by_cases c : (tt_li T p)[k] = u
      · obtain ⟨y, a, b⟩ := ih n (k + 1) (nI k) (by omega) (by omega)
        refine ⟨y, ?_, ?_⟩
        · rw [if_neg (by rw [nI_clamp (by omega), at_, c]; exact fun q => q rfl), m_X8_keptPlace_j47, nI_add]; exact a
        · rw [b, hd, c]
          constructor
          · rintro ⟨q, -⟩; exact absurd q (nI_pos (by omega))
          · rintro ⟨-, q⟩; exact absurd List.mem_cons_self q
      · obtain ⟨y, a, b⟩ := ih n (k + 1) x (by omega) (by omega)
        refine ⟨y, ?_, ?_⟩
        · rw [if_pos (by rw [nI_clamp (by omega), at_, z_eq hy hu]; exact c), m_X8_keptPlace_j47, nI_add]; exact a
        · rw [b, hd, List.mem_cons]
          constructor
          · rintro ⟨q1, q2⟩; exact ⟨q1, fun q => q.elim (fun z => c z.symm) q2⟩
          · rintro ⟨q1, q2⟩; exact ⟨q1, fun q => q2 (Or.inr q)⟩
  have hF := FUb
  obtain ⟨y, a, b⟩ := key (tt_li T p).length FU 0 (-9) (by omega) (by omega)
  refine ⟨y, a, ?_⟩
  rw [b, List.drop_zero]
  exact ⟨fun q => q.2, fun q => ⟨by decide, q⟩⟩
/-- the first served one, looked for from the end -/
def fsD (P : Nat → Nat) (l : List Nat) : Nat → Nat → Nat
  | 0, x => x
  | k + 1, x => fsD P l k (if fsq P l k then k else x)
theorem fsD_eq (P : Nat → Nat) (l : List Nat) : ∀ (k x : Nat), fsD P l k x = if fa_first (fsq P l) k < k then fa_first (fsq P l) k else x := by
  intro k
  induction k with
  | zero => intro x; rfl
  | succ k ih =>
    intro x
    have h1 := fa_first_le (fsq P l) k
    have h2 := fa_first_le (fsq P l) (k + 1)
    have n2 := fa_first_no (fsq P l) (k + 1)
    have y2 := fa_first_yes (fsq P l) (k + 1)
    have n1 := fa_first_no (fsq P l) k
    have y1 := fa_first_yes (fsq P l) k
    rw [fsD, ih]
    generalize fa_first (fsq P l) k = a at h1 n1 y1 ⊢
    generalize fa_first (fsq P l) (k + 1) = b at h2 n2 y2 ⊢
    by_cases c : a < k
    · have e : b = a := by
        rcases Nat.lt_trichotomy b a with z | z | z
        · have q1 := n1 b z
          have q2 := y2 (by omega)
          rw [q1] at q2; cases q2
        · exact z
        · have q1 := n2 a z
          rw [y1 c] at q1; cases q1
      rw [if_pos c, if_pos (by omega), e]
    · have ea : a = k := by omega
      rw [if_neg c]
      by_cases g : fsq P l k = true
      · have e : b = k := by
          rcases Nat.lt_trichotomy b k with z | z | z
          · have q1 := n1 b (by omega)
            rw [y2 (by omega)] at q1; cases q1
          · exact z
          · have q1 := n2 k z
            rw [g] at q1; cases q1
        rw [if_pos g, if_pos (by omega), e]
      · have e : b = k + 1 := by
          rcases Nat.lt_trichotomy b k with z | z | z
          · have q1 := n1 b (by omega)
            rw [y2 (by omega)] at q1; cases q1
          · have q1 := y2 (by omega)
            rw [z] at q1
            exact absurd q1 g
          · omega
        rw [if_neg g, if_neg (by omega)]
theorem r_k_L84 (h : RepR T (w 1)) {P : Nat → Nat} (hP : RepS w P) (hPb : ∀ o, P o ≤ 24) {p : Nat} (hp : p < 8) (hv : ∀ y ∈ tt_li T p, valU y) (kx : Int32 → Wd → Option Wd) : ∀ (k n x : Nat), k ≤ (tt_li T p).length → k < n → m_X8_keeps_L84 (nI p) kx n (nI x) (nI k + (-1 : Int32)) w = kx (nI (fsD P (tt_li T p) k x)) w := by
  have hl := rr_co h hp
  have h96 := rr_col h hp
  intro k
  induction k with
  | zero =>
    intro n x hk hn
    obtain ⟨n, rfl⟩ : ∃ m, n = m + 1 := ⟨n - 1, by omega⟩
    rw [m_X8_keeps_L84, if_pos (by decide)]
    rfl
  | succ k ih =>
    intro n x hk hn
    obtain ⟨n, rfl⟩ : ∃ m, n = m + 1 := ⟨n - 1, by omega⟩
    have hlt : k < (tt_li T p).length := by omega
    obtain ⟨o, v, e, ho, h1, h2⟩ := hv _ (List.getElem_mem hlt)
    have at_ : w 1 (447 + 96 * p + k) = nI (100 * o + v) := by
      have := rl_at hl hlt
      rw [e] at this
      exact this
    have hPo := hPb o
    have hq : fsq P (tt_li T p) k = decide (v ≤ P o) := by
      unfold fsq
      rw [List.getD_eq_getElem?_getD, List.getElem?_eq_getElem hlt, Option.getD_some, e, show (100 * o + v) % 100 = v by omega, show (100 * o + v) / 100 = o by omega]
    have ed : nI (100 * o + v) / nI 100 = nI o := by rw [pk_div (by omega) (by omega) (by omega), show (100 * o + v) / 100 = o by omega]
    have er : nI (100 * o + v) - nI (100 * o + v) / nI 100 * nI 100 = nI v := by rw [ed, pk_mul, z_sub (by omega), show 100 * o + v - o * 100 = v by omega]
    rw [z_m1 (by omega), Nat.add_sub_cancel, m_X8_keeps_L84, if_neg (nI_pos (by omega)), ix3, if_pos (ib_n (by omega) (by omega)), lt_eq, nI_clamp (by omega), at_, ed, if_pos (ib_n (by omega) (by omega)), fsD, hq]
    by_cases c : v ≤ P o
    · rw [if_neg (by rw [nI_clamp (by omega), hP o ho, ← ed, er, z_lt (by omega) (by omega)]; omega), if_pos (by simpa using c), m_X8_keeps_j131]
      exact ih n k (by omega) (by omega)
    · rw [if_pos (by rw [nI_clamp (by omega), hP o ho, ← ed, er, z_lt (by omega) (by omega)]; omega), if_neg (by simpa using c), m_X8_keeps_j131]
      exact ih n x (by omega) (by omega)
/-- the shift that closes the gap at j -/
theorem r_k_L155 {p : Nat} (hp : p < 8) (kx : Wd → Option Wd) {L : Nat} (hL : L + 1 ≤ 96) : ∀ (d n j : Nat) (w : Wd), j + d = L → d < n → w 1 (439 + p) = nI L → ∃ w', m_X8_keeps_L155 (nI p) kx n (nI j) w = kx w' ∧ (∀ i, i < 96 → w' 1 (447 + 96 * p + i) = if j ≤ i ∧ i < L then w 1 (447 + 96 * p + (i + 1)) else w 1 (447 + 96 * p + i)) ∧ (∀ i, (i < 447 + 96 * p ∨ 447 + 96 * p + 96 ≤ i) → w' 1 i = w 1 i) ∧ ∀ k, k ≠ 1 → w' k = w k := by
  intro d
  induction d with
  | zero =>
    intro n j w hj hn e
    obtain ⟨n, rfl⟩ : ∃ m, n = m + 1 := ⟨n - 1, by omega⟩
    refine ⟨w, ?_, fun i hi => by rw [if_neg (by omega)], fun _ _ => rfl, fun _ _ => rfl⟩
    rw [m_X8_keeps_L155, nI_add, if_pos (ib_n (by omega) (by omega)), if_pos (by rw [nI_clamp (by omega), e, z_le (by omega) (by omega)]; omega)]
  | succ d ih =>
    intro n j w hj hn e
    obtain ⟨n, rfl⟩ : ∃ m, n = m + 1 := ⟨n - 1, by omega⟩
    have e1 : wset w 1 (447 + 96 * p + j) (w 1 (447 + 96 * p + (j + 1))) 1 (439 + p) = nI L := by rw [w1_set, upd_n (by omega)]; exact e
    obtain ⟨w', a, b, c, f⟩ := ih n (j + 1) (wset w 1 (447 + 96 * p + j) (w 1 (447 + 96 * p + (j + 1)))) (by omega) (by omega) e1
    refine ⟨w', ?_, fun i hi => ?_, fun i hi => ?_, fun k hk => by rw [f k hk, wset_ne hk]⟩
    · rw [m_X8_keeps_L155, nI_add, if_pos (ib_n (by omega) (by omega)), if_neg (by rw [nI_clamp (by omega), e, z_le (by omega) (by omega)]; omega), ix3, nI_add, if_pos (ib_n (by omega) (by omega)), if_pos (ib_n (by omega) (by omega)), lt_eq, nI_clamp (by omega), nI_clamp (by omega), nI_add]
      exact a
    · rw [b i hi]
      by_cases g : j + 1 ≤ i ∧ i < L
      · rw [if_pos g, if_pos (by omega), w1_set, upd_n (by omega)]
      · rw [if_neg g]
        by_cases q : i = j
        · subst q
          rw [if_pos (by omega), w1_set, upd_s]
        · rw [if_neg (by omega), w1_set, upd_n (by omega)]
    · rw [c i hi, w1_set, upd_n (by omega)]
theorem r_keeps (h : RepR T (w 1)) (I : InvB T) {p u : Nat} (hp : p < tt_nu T 0) (hlen : (tt_li T p).length < 96) (hv : ∀ x ∈ tt_li T p, valU x) (hu : valU u) : ∃ w', m_X8_keeps (nI p) (nI u) w = some w' ∧ RepR (keep T p u) (w' 1) ∧ FrR w w' := by
  have hnp := it_np I
  have hme := I.2.2.1
  have hp8 : p < 8 := by omega
  have hl := rr_co h hp8
  have esz : w 1 (439 + p) = nI (tt_li T p).length := hl.1
  obtain ⟨w1, e1⟩ : ∃ w1, w1 = wset w 1 (447 + 96 * p + (tt_li T p).length) (nI u) := ⟨_, rfl⟩
  obtain ⟨w2, e2⟩ : ∃ w2, w2 = wset w1 1 (439 + p) (nI ((tt_li T p).length + 1)) := ⟨_, rfl⟩
  have esz1 : w1 1 (439 + p) = nI (tt_li T p).length := by rw [e1, w1_set, upd_n (by omega)]; exact esz
  have s2 : w2 1 = upd (upd (w 1) (447 + 96 * p + (tt_li T p).length) (nI u)) (439 + p) (nI ((tt_li T p).length + 1)) := by rw [e2, w1_set, e1, w1_set]
  have fr2 : FrR w w2 := by rw [e2, e1]; exact (FrR.s (Or.inl rfl)).tr (FrR.s (Or.inl rfl))
  have h2 : RepR (addLi T p u) (w2 1) := by
    refine rr_set_co h hp8 ?_ (by rw [List.length_append]; show _ + 1 ≤ 96; omega) (fun j j1 j2 => by rw [s2, upd_n j1, upd_n (by omega)])
    have ap := rl_app hl u
    refine rl_cong ap (by rw [s2, upd_s]) (fun k hk => ?_)
    rw [List.length_append, List.length_singleton] at hk
    rw [s2, upd_n (by omega)]
    by_cases c : k = (tt_li T p).length
    · subst c; rw [upd_s, upd_s]
    · rw [upd_n (by omega), upd_n c]
  have ell : tt_li (addLi T p u) p = tt_li T p ++ [u] := up_s _ _ _
  have hl2 : (tt_li T p ++ [u]).length = (tt_li T p).length + 1 := by simp
  have hib : ib (nI (439 + p)) 1423 := ib_n (by omega) (by omega)
  have hcl : (nI (439 + p)).toNatClampNeg = 439 + p := nI_clamp (by omega)
  have hsz2 : w2 1 (439 + p) = nI ((tt_li T p).length + 1) := by rw [s2, upd_s]
  unfold keep
  have start : ∀ (kx : Wd → Option Wd) , (if ib (nI 439 + nI p) 1423 then
    if ib (((nI 447) + ((nI 96) * nI p)) + (w 1 ((nI 439) + nI p).toNatClampNeg)) 1423 then
    lt (wset w 1 (((nI 447) + ((nI 96) * nI p)) + (w 1 ((nI 439) + nI p).toNatClampNeg)).toNatClampNeg (nI u)) fun w3 =>
      if ib ((nI 439) + nI p) 1423 then
        if ib ((nI 439) + nI p) 1423 then
        lt (wset w3 1 ((nI 439) + nI p).toNatClampNeg ((w3 1 ((nI 439) + nI p).toNatClampNeg) + (nI 1))) kx else none else none else none else none) = kx w2 := by
    intro kx
    have ei : ((nI 447) + ((nI 96) * nI p)) + (w 1 ((nI 439) + nI p).toNatClampNeg) = nI (447 + 96 * p + (tt_li T p).length) := by rw [nI_add, hcl, esz, ix3]
    rw [ei, nI_add, if_pos hib, if_pos (ib_n (by omega) (by omega)), nI_clamp (show 447 + 96 * p + (tt_li T p).length < 2 ^ 31 by omega), lt_eq, ← e1, if_pos hib, if_pos hib, hcl, esz1, nI_add, ← e2, lt_eq]
  rw [m_X8_keeps, start]
  by_cases c : p = 0
  · rw [if_pos (by rw [c]; rfl), if_pos (Or.inl c)]
    exact ⟨w2, rfl, h2, fr2⟩
  rw [if_neg (by rw [z_eq0 (by omega)]; exact c), nI_add, if_pos hib, if_pos (ib_n (by omega) (by omega))]
  by_cases d : (tt_li T p).length + 1 ≤ tt_nu T 2
  · rw [if_neg (by rw [nI_clamp (by omega), rr_nu h2 (by omega), hcl, hsz2]; show ¬ nI (tt_nu T 2) < nI _; rw [z_lt (by omega) (by omega)]; omega), if_pos (Or.inr d)]
    exact ⟨w2, rfl, h2, fr2⟩
  rw [if_pos (by rw [nI_clamp (by omega), rr_nu h2 (by omega), hcl, hsz2]; show nI (tt_nu T 2) < nI _; rw [z_lt (by omega) (by omega)]; omega), if_neg (fun q => q.elim c d)]
  obtain ⟨w3, b1, b2, b3⟩ := r_serves h2 (show InvB (addLi T p u) from I) hp8
  have h3 := rr_5 h2 b3
  have hsz3 : w3 1 (439 + p) = nI ((tt_li T p).length + 1) := by rw [b3 1 (by omega)]; exact hsz2
  have hv2 : ∀ x ∈ tt_li (addLi T p u) p, valU x := by
    intro x hx
    rw [ell] at hx
    rcases List.mem_append.mp hx with z | z
    · exact hv x z
    · rw [List.mem_singleton.mp z]; exact hu
  have hF := FUb
  have e3' : (w3 1 (nI (439 + p)).toNatClampNeg) - nI 1 = nI (tt_li T p).length := by rw [hcl, hsz3, z_sub (by omega), Nat.add_sub_cancel]
  rw [b1, b_b, if_pos hib, e3', lt_eq]
  have k84 := fun kx => r_k_L84 h3 b2 (pfx_le _ _) hp8 hv2 kx ((tt_li T p).length + 1) FU 0 (by rw [ell, hl2]; exact Nat.le_refl _) (by omega)
  rw [z_m1 (by omega), Nat.add_sub_cancel] at k84
  rw [k84]
  have efs : fsD (pfx (addLi T p u) p) (tt_li (addLi T p u) p) ((tt_li T p).length + 1) 0 = fsv (pfx (addLi T p u) p) (tt_li (addLi T p u) p) := by
    rw [fsD_eq]
    unfold fsv
    rw [ell, hl2]
  rw [efs]
  have hf := fsv_lt (P := pfx (addLi T p u) p) (l := tt_li (addLi T p u) p) (by rw [ell, hl2]; omega)
  rw [ell, hl2] at hf
  obtain ⟨w4, e4⟩ : ∃ w4, w4 = wset w3 1 (439 + p) (nI (tt_li T p).length) := ⟨_, rfl⟩
  have s4 : w4 1 = upd (w3 1) (439 + p) (nI (tt_li T p).length) := by rw [e4, w1_set]
  have e4s : w4 1 (439 + p) = nI (tt_li T p).length := by rw [s4, upd_s]
  have ell' := ell
  unfold evict
  rw [ell]
  generalize fsv (pfx (addLi T p u) p) (tt_li T p ++ [u]) = J at hf ⊢
  obtain ⟨w5, g1, g2, g3, g4⟩ := r_k_L155 hp8 (fun w17 =>
                          if ib (nI 6) 1423 then
                            if ib (nI 6) 1423 then
                            lt (wset w17 1 (nI 6).toNatClampNeg ((w17 1 (nI 6).toNatClampNeg) + (nI 1))) fun w20 =>
                              some w20
                            else none
                          else none) (L := (tt_li T p).length) (by omega) ((tt_li T p).length - J) FU J w4 (by omega) (by omega) e4s
  have h5 : RepR (ts_li (addLi T p u) (va_up (tt_li (addLi T p u)) p ((tt_li T p ++ [u]).eraseIdx J))) (w5 1) := by
    refine rr_set_co h3 hp8 ?_ (by rw [List.length_eraseIdx_of_lt (by omega), hl2]; omega) (fun j j1 j2 => by rw [g3 j j2, s4, upd_n j1])
    have hco := rr_co h3 hp8
    rw [ell] at hco
    have hlen2 : ((tt_li T p ++ [u]).eraseIdx J).length = (tt_li T p).length := by rw [List.length_eraseIdx_of_lt (by omega), hl2]; omega
    refine ⟨by rw [g3 _ (by omega), e4s, hlen2], fun k x hx => ?_⟩
    have hk : k < (tt_li T p).length := by
      have := (List.getElem?_eq_some_iff.mp hx).1
      omega
    show w5 1 (447 + 96 * p + k) = nI x
    rw [g2 k (by omega), s4, List.getElem?_eraseIdx] at *
    by_cases q : k < J
    · rw [if_pos q] at hx
      rw [if_neg (by omega), upd_n (by omega)]
      exact hco.2 k x hx
    · rw [if_neg q] at hx
      rw [if_pos (by omega), upd_n (by omega)]
      exact hco.2 (k + 1) x hx
  have h6 := rr_set_nu h5 (j := 6) (by omega) (tt_nu (addLi T p u) 6 + 1)
  refine ⟨wset w5 1 6 (nI (tt_nu (addLi T p u) 6 + 1)), ?_, ?_, ?_⟩
  · have e4' : wset w3 1 (nI (439 + p)).toNatClampNeg ((w3 1 (nI (439 + p)).toNatClampNeg) - nI 1) = w4 := by rw [e3', hcl, e4]
    rw [if_pos hib, if_pos hib, e4', lt_eq, g1, if_pos (ib_n (by omega) (by omega)), if_pos (ib_n (by omega) (by omega)), nI_clamp (by omega), rr_nu h5 (by omega), nI_add, lt_eq]
  · rw [w1_set]; exact h6
  · refine fr2.tr ((FrR.of5 b3).tr (FrR.tr (w1 := w4) ?_ (FrR.tr (w1 := w5) (FrR.of1 g4) (FrR.s (Or.inl rfl)))))
    rw [e4]; exact FrR.s (Or.inl rfl)
end RKEEP
