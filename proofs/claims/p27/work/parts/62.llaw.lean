/-! ===== the whole law ===== -/
section LLAW
variable {S : ST} {w : Wd} {L : Nat} {xs : Nat → Int32}
theorem l_cell (hL : L < 2 ^ 31) {j : Nat} (hj : j < 2 ^ 31) : ∃ x, m_L_cell L 0 (nI j) (fun _ => xs) = some x := by
  rw [m_L_cell]
  by_cases c : L ≤ j
  · rw [if_pos (by rw [z_le hL hj]; exact c)]
    exact ⟨_, rfl⟩
  · rw [if_neg (by rw [z_le hL hj]; exact c), if_pos (by rw [z_ib hj]; omega)]
    exact ⟨_, rfl⟩
theorem l_law_L285 (hL : L < 2 ^ 31) {N c : Nat} (hN : 497 ≤ N) (hc : c ≤ 67) : ∀ (d n t : Nat) (S : ST) (w : Wd), t + d = c → d < n → FL S S.1 w → LI S.1 → ∃ w', m_L_law_L285 N L xs (nI c) n (nI 1) (nI t) w = some (nI 1, w') := by
  intro d
  induction d with
  | zero =>
    intro n t S w ht hn h I
    obtain ⟨n, rfl⟩ : ∃ m, n = m + 1 := ⟨n - 1, by omega⟩
    refine ⟨w, ?_⟩
    rw [m_L_law_L285, if_pos (by rw [z_le (by omega) (by omega)]; omega)]
    rfl
  | succ d ih =>
    intro n t S w ht hn h I
    obtain ⟨n, rfl⟩ : ∃ m, n = m + 1 := ⟨n - 1, by omega⟩
    obtain ⟨x, e1⟩ := l_cell (xs := xs) hL (j := 2 + t) (by omega)
    obtain ⟨w1, S1, a1, a2, a3⟩ := l_acts h I hN (x ^^^ (nI 7919 * nI t))
    obtain ⟨w2, b1, b2, b3⟩ := l_isSo a2.1 a2.2 a3 hN
    rw [m_L_law_L285, if_neg (by rw [z_le (by omega) (by omega)]; omega), if_neg (by decide), nI_add, e1, b_b, a1, b_b, if_neg (by exact (by decide : ¬ nI 1 = 0)), b1, b_b, if_neg (by exact (by decide : ¬ nI 1 = 0)), m_L_law_j355, nI_add]
    exact ih n (t + 1) S1 w2 (by omega) (by omega) ⟨b2, b3⟩ a3
theorem l_law_L171 (hL : L < 2 ^ 31) {N P : Nat} (kx : Int32 → Wd → Option (Int32 × Wd)) (hP : 1 ≤ P) (hP5 : P ≤ 5) : ∀ (d n a : Nat) (S : ST) (w : Wd), a + d = 4 → d < n → FL S S.1 w → LI S.1 → tt_nu S.1 0 = P → (∀ o, o < 4 → tt_wr S.1 o = 0) → (∀ o, a ≤ o → o < 4 → tt_ho S.1 o = 0) → ∃ (w' : Wd) (S' : ST), m_L_law_L171 N L xs (nI P) kx n (nI 1) (nI a) w = kx (nI 1) w' ∧ FL S' S'.1 w' ∧ LI S'.1 := by
  intro d
  induction d with
  | zero =>
    intro n a S w ha hn h I hnu hwr hho
    obtain ⟨n, rfl⟩ : ∃ m, n = m + 1 := ⟨n - 1, by omega⟩
    exact ⟨w, S, by rw [m_L_law_L171, if_pos (by rw [z_le (by omega) (by omega)]; omega)], h, I⟩
  | succ d ih =>
    intro n a S w ha hn h I hnu hwr hho
    obtain ⟨n, rfl⟩ : ∃ m, n = m + 1 := ⟨n - 1, by omega⟩
    obtain ⟨x, e1⟩ := l_cell (xs := xs) hL (j := 1) (by omega)
    obtain ⟨q, hq, e2⟩ := l_lowE (x >>> ((nI 3 * nI a) &&& 31)) (n := P) hP (by omega)
    obtain ⟨w4, e4⟩ : ∃ w4, w4 = wset w 490 (16 + a) (nI q) := ⟨_, rfl⟩
    have hR4 : RepL (ts_ho S.1 (va_up (tt_ho S.1) a q)) w4 := by rw [e4]; exact rl_set_ho h.2 (by omega) q
    have hC4 : FC S w4 := fc_fr h.1 (fun k hk => by rw [e4, wset_ne (by omega)])
    have g4 : w4 490 (16 + a) = nI q := by rw [e4, wset_same, upd_s]
    obtain ⟨w6, a1, a2⟩ := f_home hC4 (nI a) (nI q)
    have es : sp_setHome S.1 a q = (nI (tt_ho S.1 a), ts_ho S.1 (va_up (tt_ho S.1) a q)) := by
      unfold sp_setHome
      rw [if_pos ⟨by omega, by omega⟩, if_neg (by rw [hwr a (by omega)]; omega)]
    have x1 : (o_home S (nI a) (nI q)).1 = nI 0 := by unfold o_home; rw [cl_1, dn_nI (by omega), dn_nI (by omega), es, hho a (Nat.le_refl _) (by omega)]
    have x2 : (o_home S (nI a) (nI q)).2.1 = ts_ho S.1 (va_up (tt_ho S.1) a q) := by unfold o_home; rw [cl_2, dn_nI (by omega), dn_nI (by omega), es]
    have IQ := iq_setHome I.1 a q
    rw [es] at IQ
    generalize (o_home S (nI a) (nI q)).1 = ans at a1 x1
    generalize (o_home S (nI a) (nI q)).2 = S2 at a2 x2
    subst x1
    have hF : FL S2 S2.1 (wj w6 w4) := ⟨fc_wj a2, by rw [x2]; exact rl_wj hR4⟩
    have I2 : LI S2.1 := by rw [x2]; exact ⟨IQ, I.2.1, I.2.2⟩
    obtain ⟨w', S', b1, b2, b3⟩ := ih n (a + 1) S2 (wj w6 w4) (by omega) (by omega) hF I2 (by rw [x2]; exact hnu) (by rw [x2]; exact hwr) (by
      rw [x2]
      intro o o1 o2
      show va_up (tt_ho S.1) a q o = 0
      rw [up_n (by omega)]
      exact hho o (by omega) o2)
    refine ⟨w', S', ?_, b2, b3⟩
    rw [m_L_law_L171, if_neg (by rw [z_le (by omega) (by omega)]; omega), if_neg (by decide), e1, b_b, e2, b_b, nI_add, if_pos (by rw [z_ib (by omega)]; omega), lt_eq, if_pos (by rw [z_ib (by omega)]; omega), nI_clamp (by omega), ← e4, g4, a1, b_b, lt_eq, if_neg (by exact (by decide : ¬¬ nI 0 = 0)), m_L_law_j225, nI_add]
    exact b1
theorem l_law_L81 (hL : L < 2 ^ 31) {N P : Nat} (kx : Int32 → Wd → Option (Int32 × Wd)) (hP5 : P ≤ 5) : ∀ (d n p : Nat) (S : ST) (w : Wd), p + d = P → d < n → 1 ≤ p → FL S S.1 w → LI S.1 → tt_nu S.1 0 = p → (∀ o, o < 4 → tt_wr S.1 o = 0) → (∀ o, o < 4 → tt_ho S.1 o = 0) → ∃ (w' : Wd) (S' : ST), m_L_law_L81 N L xs (nI P) kx n (nI 1) (nI p) w = kx (nI 1) w' ∧ FL S' S'.1 w' ∧ LI S'.1 ∧ tt_nu S'.1 0 = P ∧ (∀ o, o < 4 → tt_wr S'.1 o = 0) ∧ ∀ o, o < 4 → tt_ho S'.1 o = 0 := by
  intro d
  induction d with
  | zero =>
    intro n p S w hp hn h1 h I hnu hwr hho
    obtain ⟨n, rfl⟩ : ∃ m, n = m + 1 := ⟨n - 1, by omega⟩
    exact ⟨w, S, by rw [m_L_law_L81, if_pos (by rw [z_le (by omega) (by omega)]; omega)], h, I, by omega, hwr, hho⟩
  | succ d ih =>
    intro n p S w hp hn h1 h I hnu hwr hho
    obtain ⟨n, rfl⟩ : ∃ m, n = m + 1 := ⟨n - 1, by omega⟩
    have K := I.K
    obtain ⟨x, e1⟩ := l_cell (xs := xs) hL (j := 0) (by omega)
    obtain ⟨q, hq, e2⟩ := l_lowE (x >>> ((nI 3 * nI p) &&& 31)) (n := p) h1 (by omega)
    obtain ⟨w4, e4⟩ : ∃ w4, w4 = wset w 490 (8 + p) (nI q) := ⟨_, rfl⟩
    have hR4 : RepL (ts_pa S.1 (va_up (tt_pa S.1) p q)) w4 := by rw [e4]; exact rl_set_pa h.2 (by omega) q
    have hC4 : FC S w4 := fc_fr h.1 (fun k hk => by rw [e4, wset_ne (by omega)])
    have g4 : w4 490 (8 + p) = nI q := by rw [e4, wset_same, upd_s]
    obtain ⟨w6, a1, a2⟩ := f_add hC4 (nI q)
    obtain ⟨T2, eT2⟩ : ∃ T2, T2 = ts_nu (ts_pa S.1 (va_up (tt_pa S.1) p q)) (va_up (tt_nu S.1) 0 (p + 1)) := ⟨_, rfl⟩
    have es : sp_addProxy S.1 q = (nI p, T2) := by
      unfold sp_addProxy
      rw [if_pos (by omega), if_pos (by omega), hnu, eT2]
    have x1 : (o_add S (nI q)).1 = nI p := by unfold o_add; rw [cl_1, dn_nI (by omega), es]
    have x2 : (o_add S (nI q)).2.1 = T2 := by unfold o_add; rw [cl_2, dn_nI (by omega), es]
    have IQ := iq_addProxy I.1 q
    rw [es] at IQ
    generalize (o_add S (nI q)).1 = ans at a1 x1
    generalize (o_add S (nI q)).2 = S2 at a2 x2
    subst x1
    have hC7 : FC S2 (wj w6 w4) := fc_wj a2
    have g7 : wj w6 w4 490 (8 + p) = nI q := by rw [wj_hi (by omega)]; exact g4
    have hn2 : tt_nu S2.1 0 = p + 1 := by rw [x2, eT2]; exact up_s (tt_nu S.1) 0 _
    have hp2 : tt_pa S2.1 p = q := by rw [x2, eT2]; exact up_s (tt_pa S.1) p _
    obtain ⟨w8, b1, b2⟩ := f_proxy hC7 (nI p) (nI 0)
    have ep : sq_proxy S2.1 (dn (nI p)) (dn (nI 0)) = nI q := by
      rw [dn_nI (by omega), dn_nI (by omega)]
      unfold sq_proxy
      rw [if_pos (by omega), if_pos rfl, if_neg (by omega), hp2]
    rw [ep] at b1
    obtain ⟨w9, e9⟩ : ∃ w9, w9 = wj w8 (wj w6 w4) := ⟨_, rfl⟩
    have hC9 : FC S2 w9 := by rw [e9]; exact fc_wj b2
    have hR9 : RepL (ts_pa S.1 (va_up (tt_pa S.1) p q)) w9 := by rw [e9]; exact rl_wj (rl_wj hR4)
    have g9 : w9 490 (8 + p) = nI q := by rw [e9, wj_hi (by omega)]; exact g7
    have g0 : w9 490 (nI 0).toNatClampNeg = nI p := by rw [nI_clamp (by omega)]; exact (rl_nu hR9 (j := 0) (by omega)).trans (by rw [hnu])
    have hR10 : RepL S2.1 (wset w9 490 0 (nI (p + 1))) := by rw [x2, eT2]; exact rl_set_nu hR9 (by omega) (p + 1)
    have hC10 : FC S2 (wset w9 490 0 (nI (p + 1))) := fc_fr hC9 (fun k hk => wset_ne (by omega))
    have I2 : LI S2.1 := by
      refine ⟨by rw [x2]; exact IQ, by omega, ?_⟩
      rw [x2, eT2]
      exact I.2.2
    obtain ⟨w', S', c1, c2⟩ := ih n (p + 1) S2 (wset w9 490 0 (nI (p + 1))) (by omega) (by omega) (by omega) ⟨hC10, hR10⟩ I2 hn2 (by rw [x2, eT2]; exact hwr) (by rw [x2, eT2]; exact hho)
    refine ⟨w', S', ?_, c2⟩
    rw [m_L_law_L81, if_neg (by rw [z_le (by omega) (by omega)]; omega), if_neg (by decide), e1, b_b, e2, b_b]
    have ib8 : ib (nI (8 + p)) 24 := by rw [z_ib (by omega)]; omega
    have c8 : (nI (8 + p)).toNatClampNeg = 8 + p := nI_clamp (by omega)
    simp only [nI_add, if_pos ib8, c8, lt_eq]
    rw [← e4, g4, a1, b_b, if_neg (by exact fun q => q rfl), b1, b_b, ← e9, g9, if_neg (by exact fun q => q rfl), m_L_law_j153, if_pos (by decide), if_pos (by decide), g0, lt_eq, show (nI 0).toNatClampNeg = 0 from nI_clamp (by omega), nI_add]
    exact c1
theorem rlr_nil {row : Nat → Int32} {b : Nat} (h : row b = 0) : RLr row b [] := ⟨h, fun k x hk => by simp at hk⟩
theorem l_law (hL : L < 2 ^ 31) (hC : FC S0 w) (hz : ∀ k, 490 ≤ k → k < 497 → ∀ j, w k j = 0) {N : Nat} (hN : 497 ≤ N) : ∃ w', m_L_law_j48 N L xs w = some (nI 1, w') := by
  have hF := FUb
  obtain ⟨w6, e6⟩ : ∃ w6, w6 = wset (wset (wset w 490 0 (nI 1)) 490 1 (nI 8)) 490 2 (nI 12) := ⟨_, rfl⟩
  have f6 : ∀ k, k ≠ 490 → w6 k = w k := fun k hk => by rw [e6, wset_ne hk, wset_ne hk, wset_ne hk]
  have n6 : ∀ j, 3 ≤ j → w6 490 j = 0 := fun j hj => by rw [e6, wset_same, upd_n (by omega), wset_same, upd_n (by omega), wset_same, upd_n (by omega)]; exact hz 490 (by omega) (by omega) j
  have hC6 : FC S0 w6 := fc_fr hC (fun k hk => f6 k (by omega))
  have hR6 : RepL T0 w6 := by
    refine ⟨fun j hj => ?_, fun p hp => n6 _ (by omega), fun o ho => n6 _ (by omega), fun o ho => n6 _ (by omega), fun j hj => ?_, fun o v ho h1 hv => ?_, fun c h1 hc => ⟨rlr_nil ?_, rlr_nil ?_, rlr_nil ?_⟩, rlr_nil ?_⟩
    · rcases (show j = 0 ∨ j = 1 ∨ j = 2 ∨ 3 ≤ j by omega) with rfl | rfl | rfl | h3
      · rw [e6, wset_same, upd_n (by omega), wset_same, upd_n (by omega), wset_same, upd_s]; rfl
      · rw [e6, wset_same, upd_n (by omega), wset_same, upd_s]; rfl
      · rw [e6, wset_same, upd_s]; rfl
      · rw [n6 j h3]
        show (0 : Int32) = nI (if j = 0 then 1 else if j = 1 then 8 else if j = 2 then 12 else 0)
        rw [if_neg (by omega), if_neg (by omega), if_neg (by omega)]
        rfl
    · rw [f6 491 (by omega), hz 491 (by omega) (by omega)]
      show (0 : Int32) = nI (2 * bits (fun _ => false) 12)
      rw [bits_f]
      rfl
    · change v ≤ 0 at hv; omega
    · rw [f6 493 (by omega)]; exact hz 493 (by omega) (by omega) _
    · rw [f6 494 (by omega)]; exact hz 494 (by omega) (by omega) _
    · rw [f6 495 (by omega)]; exact hz 495 (by omega) (by omega) _
    · rw [f6 496 (by omega)]; exact hz 496 (by omega) (by omega) _
  have I0 : LI S0.1 := ⟨InvQ0, by decide, fun o ho => Nat.zero_le _⟩
  obtain ⟨x0, c0⟩ := l_cell (xs := xs) hL (j := 0) (by omega)
  obtain ⟨x1, c1⟩ := l_cell (xs := xs) hL (j := 1) (by omega)
  obtain ⟨q, hq, e8⟩ := l_lowE x0 (n := 5) (by omega) (by omega)
  obtain ⟨t, ht, e13⟩ := l_lowE (x1 >>> (nI 13 &&& 31)) (n := 60) (by omega) (by omega)
  obtain ⟨w11, S1, a1, a2, a3, a4, a5, a6⟩ := l_law_L81 (xs := xs) (N := N) hL (P := 1 + q) (fun x10_10 w11 => m_L_law_j168 N L xs (nI (1 + q)) x10_10 w11) (by omega) q FU 1 S0 w6 (by omega) (by omega) (by omega) ⟨hC6, hR6⟩ I0 rfl (fun _ _ => rfl) (fun _ _ => rfl)
  obtain ⟨w12, S2, b1, b2, b3⟩ := l_law_L171 (xs := xs) (N := N) hL (P := 1 + q) (fun x10_1 w2 => m_L_law_j233 N L xs x10_1 w2) (by omega) (by omega) 4 FU 0 S1 w11 (by omega) (by omega) a2 a3 a4 a5 (fun o _ ho => a6 o ho)
  obtain ⟨w13, d1, d2, d3⟩ := l_isSo b2.1 b2.2 b3 hN
  obtain ⟨w', g⟩ := l_law_L285 (xs := xs) hL hN (c := 8 + t) (by omega) (8 + t) 68 0 S2 w13 (by omega) (by omega) ⟨d2, d3⟩ b3
  refine ⟨w', ?_⟩
  rw [m_L_law_j48, if_pos (by decide), lt_eq, if_pos (by decide), lt_eq, if_pos (by decide), lt_eq, show (nI 0).toNatClampNeg = 0 from nI_clamp (by omega), show (nI 1).toNatClampNeg = 1 from nI_clamp (by omega), show (nI 2).toNatClampNeg = 2 from nI_clamp (by omega), ← e6, c0, b_b, e8, b_b, lt_eq, nI_add]
  refine Eq.trans a1 ?_
  rw [m_L_law_j168]
  refine Eq.trans b1 ?_
  rw [m_L_law_j233, if_neg (by decide), d1, b_b, if_neg (by exact (by decide : ¬ nI 1 = 0)), m_L_law_j262, c1, b_b, e13, b_b, lt_eq, nI_add]
  exact g
end LLAW
