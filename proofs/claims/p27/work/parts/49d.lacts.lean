/-! ===== one turn of the law ===== -/
theorem or_add {x y k : Nat} (h : x < 2 ^ k) : x ||| y * 2 ^ k = x + y * 2 ^ k := by
  have e := Nat.two_pow_add_eq_or_of_lt h y
  rw [Nat.mul_comm y, Nat.or_comm, ← e, Nat.add_comm]
theorem z_shl {n k : Nat} (hk : k < 32) (h : n * 2 ^ k < 2 ^ 32) : nI n <<< (nI k &&& 31) = nI (n * 2 ^ k) := pk_shlN _ k (s_l k hk) h
theorem z_pack {a b c d : Nat} (ha : a < 32) (hb : b < 32) (hc : c < 32) (hd : d < 32) : (((nI a ||| (nI b <<< (nI 5 &&& 31))) ||| (nI c <<< (nI 10 &&& 31))) ||| (nI d <<< (nI 15 &&& 31))) = nI (a + 32 * b + 1024 * c + 32768 * d) := by
  rw [z_shl (by omega) (by omega), z_shl (by omega) (by omega), z_shl (by omega) (by omega), fa_or, or_add (k := 5) (by omega), fa_or, or_add (k := 10) (by omega), fa_or, or_add (k := 15) (by omega)]
  congr 1
  omega
section LACTS
variable {S : ST} {w : Wd}
theorem li_lim {T : TT} (I : LI T) (r m : Nat) : LI (sp_setLimits T r m).2 := by
  refine ⟨iq_setLimits I.1 r m, ?_, ?_⟩
  · unfold sp_setLimits
    split
    · show va_up (va_up (tt_nu T) 1 r) 2 m 0 ≤ 5
      rw [up_n (by decide), up_n (by decide)]
      exact I.2.1
    · exact I.2.1
  · unfold sp_setLimits
    split
    · exact I.2.2
    · exact I.2.2
theorem l_ac_lim (h : FL S S.1 w) (I : LI S.1) {r m N : Nat} (hr : r < 9) (hm : m < 12) : ∃ (w' : Wd) (S' : ST), (m_X7_setLimits (nI r) (nI (1 + m)) (wset (wset w 490 1 (nI r)) 490 2 (nI (1 + m)))).bind (fun o6 => lt (wj o6.2 (wset (wset w 490 1 (nI r)) 490 2 (nI (1 + m)))) fun w7 => if o6.1 < 0 then some ((nI 0), w7) else some ((nI 1), w7)) = some (nI 1, w') ∧ FL S' S'.1 w' ∧ LI S'.1 := by
  have hR := rl_set_nu (rl_set_nu h.2 (j := 1) (by omega) r) (j := 2) (by omega) (1 + m)
  have hC : FC S (wset (wset w 490 1 (nI r)) 490 2 (nI (1 + m))) := fc_fr h.1 (fun k hk => by rw [wset_ne (by omega), wset_ne (by omega)])
  have e : sp_setLimits S.1 r (1 + m) = (nI (if r = tt_nu S.1 1 ∧ 1 + m = tt_nu S.1 2 then 0 else 1), ts_nu S.1 (va_up (va_up (tt_nu S.1) 1 r) 2 (1 + m))) := by unfold sp_setLimits; rw [if_pos ⟨by omega, by omega, by omega⟩]
  obtain ⟨w1, a1, a2⟩ := f_lim hC (nI r) (nI (1 + m))
  have e1 : (o_lim S (nI r) (nI (1 + m))).1 = nI (if r = tt_nu S.1 1 ∧ 1 + m = tt_nu S.1 2 then 0 else 1) := by unfold o_lim; rw [cl_1, dn_nI (by omega), dn_nI (by omega), e]
  have e2 : (o_lim S (nI r) (nI (1 + m))).2.1 = ts_nu S.1 (va_up (va_up (tt_nu S.1) 1 r) 2 (1 + m)) := by unfold o_lim; rw [cl_2, dn_nI (by omega), dn_nI (by omega), e]
  refine ⟨wj w1 (wset (wset w 490 1 (nI r)) 490 2 (nI (1 + m))), (o_lim S (nI r) (nI (1 + m))).2, ?_, ⟨fc_wj a2, ?_⟩, ?_⟩
  · rw [a1, b_b, lt_eq, e1, if_neg (by split <;> exact nI_pos (by omega))]
  · rw [e2]; exact rl_wj hR
  · have := li_lim I r (1 + m)
    rw [e] at this
    rw [e2]; exact this
theorem wrG_lt {T : TT} (I : LI T) {a : Nat} (ha : a < 4) (f : Nat) (hf : f < 4) : wrG T a f ≤ 12 := by
  unfold wrG
  split
  · exact I.2.2 a ha
  · exact sml_12 (inv_sml I.K I.2.2) (by have := I.K.2.2.2.2.1 a ha; have := I.2.1; omega) hf
theorem li_wrT {T : TT} (I : LI T) {a : Nat} (ha : a < 4) (hw : tt_wr T a < 12) : LI (wrT T a) := by
  refine ⟨⟨wrT_inv I.K ha (by omega), I.1.2.1, I.1.2.2⟩, I.2.1, fun o ho => ?_⟩
  show va_up (tt_wr T) a (tt_wr T a + 1) o ≤ 12
  by_cases c : o = a
  · subst c; rw [up_s]; omega
  · rw [up_n c]; exact I.2.2 o ho
theorem rl_wrT {T : TT} (h : RepL T w) (I : LI T) {a : Nat} (ha : a < 4) (hw : tt_wr T a < 12) {w' : Wd} (h490 : w' 490 = upd (w 490) (20 + a) (nI (tt_wr T a + 1))) (h492 : w' 492 = upd (w 492) (12 * a + tt_wr T a) (nI (wrG T a 0 + 32 * wrG T a 1 + 1024 * wrG T a 2 + 32768 * wrG T a 3))) (hf : ∀ k, 490 ≤ k → k < 497 → k ≠ 490 → k ≠ 492 → w' k = w k) : RepL (wrT T a) w' := by
  obtain ⟨a1, a2, a3, a4, a5, a6, a7, a8⟩ := h
  have hci := setc_in (96 * a + 4 * tt_wr T a) (wrG T a) (tt_ca T) 4
  have hco := setc_out (96 * a + 4 * tt_wr T a) (wrG T a) (tt_ca T) 4
  have ec : tt_ca (wrT T a) = setc (96 * a + 4 * tt_wr T a) (wrG T a) 4 (tt_ca T) := rfl
  refine ⟨fun j hj => ?_, fun p hp => ?_, fun o ho => ?_, fun o ho => ?_, ?_, fun o v ho h1 hv => ?_, ?_, ?_⟩
  · rw [h490, upd_n (by omega)]; exact a1 j hj
  · rw [h490, upd_n (by omega)]; exact a2 p hp
  · rw [h490, upd_n (by omega)]; exact a3 o ho
  · rw [h490]
    show upd (w 490) (20 + a) (nI (tt_wr T a + 1)) (20 + o) = nI (va_up (tt_wr T) a (tt_wr T a + 1) o)
    by_cases c : o = a
    · subst c; rw [upd_s, up_s]
    · rw [upd_n (by omega), up_n c]; exact a4 o ho
  · rw [hf 491 (by omega) (by omega) (by omega) (by omega)]; exact a5
  · change v ≤ va_up (tt_wr T) a (tt_wr T a + 1) o at hv
    rw [h492]
    by_cases c : o = a ∧ v = tt_wr T a + 1
    · obtain ⟨rfl, rfl⟩ := c
      rw [Nat.add_sub_cancel, upd_s]
      unfold cpk
      rw [ec]
      have i0 := hci 0 (by omega)
      rw [Nat.add_zero] at i0
      rw [i0, hci 1 (by omega), hci 2 (by omega), hci 3 (by omega)]
    · have hv2 : v ≤ tt_wr T o := by
        by_cases d : o = a
        · subst d; rw [up_s] at hv; omega
        · rw [up_n d] at hv; exact hv
      have := I.2.2 o ho
      have hwo : o = a → v ≤ tt_wr T a := fun e => by rw [← e]; exact hv2
      rw [upd_n (by
        by_cases d : o = a
        · have := hwo d; omega
        · omega), a6 o v ho h1 hv2]
      unfold cpk
      rw [ec]
      have out : ∀ f, f < 4 → setc (96 * a + 4 * tt_wr T a) (wrG T a) 4 (tt_ca T) (96 * o + 4 * (v - 1) + f) = tt_ca T (96 * o + 4 * (v - 1) + f) := fun f hf => hco _ (by
        by_cases d : o = a
        · have := hwo d; omega
        · omega)
      have o0 := out 0 (by omega)
      rw [Nat.add_zero] at o0
      rw [o0, out 1 (by omega), out 2 (by omega), out 3 (by omega)]
  · rw [hf 493 (by omega) (by omega) (by omega) (by omega), hf 494 (by omega) (by omega) (by omega) (by omega), hf 495 (by omega) (by omega) (by omega) (by omega)]; exact a7
  · rw [hf 496 (by omega) (by omega) (by omega) (by omega)]; exact a8
theorem l_ac_L318 (hC : FC S w) (hR : RepL S.1 w) (I : LI S.1) {a N N' : Nat} {G : Nat → Nat} (ha : a < 4) (h1 : 1 ≤ tt_wr S.1 a) (hG : ∀ f, f < 4 → tt_ca S.1 (96 * a + 4 * (tt_wr S.1 a - 1) + f) = G f) (hr : RepO N w G) : ∀ (d n b : Nat), b + d = 4 → d < n → m_L_acts_L318 N' N (nI a) n (nI 1) (nI b) w = some (nI 1, w) := by
  have hwr := I.2.2 a ha
  intro d
  induction d with
  | zero =>
    intro n b hb hn
    obtain ⟨n, rfl⟩ : ∃ m, n = m + 1 := ⟨n - 1, by omega⟩
    rw [m_L_acts_L318, if_pos (by rw [z_le (by omega) (by omega)]; omega)]
    rfl
  | succ d ih =>
    intro n b hb hn
    obtain ⟨n, rfl⟩ : ∃ m, n = m + 1 := ⟨n - 1, by omega⟩
    have hc : m_X7_cause (nI a) (nI (tt_wr S.1 a)) (nI b) w = some (nI (G b)) := by
      rw [q_cause hC.1 I.K, dn_nI (by omega), dn_nI (by omega), dn_nI (by omega)]
      unfold sq_cause
      rw [if_pos ⟨by omega, ha, h1, Nat.le_refl _⟩, hG b (by omega)]
    rw [m_L_acts_L318, if_neg (by rw [z_le (by omega) (by omega)]; omega), if_neg (by decide), nI_add, if_pos (by rw [z_ib (by omega)]; omega), nI_clamp (by omega), rl_wr hR ha, hc, b_b, if_pos (by rw [z_ib (by omega)]; omega), nI_clamp (by omega), hr b (by omega), if_neg (by exact fun q => q rfl), m_L_acts_j357, nI_add]
    exact ih n (b + 1) (by omega) (by omega)
theorem l_ac_write (h : FL S S.1 w) (I : LI S.1) {a N : Nat} (hN : 497 ≤ N) (ha : a < 4) : ∃ (w' : Wd) (S' : ST), m_L_acts_j158 N (nI a) w = some (nI 1, w') ∧ FL S' S'.1 w' ∧ LI S'.1 := by
  have K := I.K
  have h5 := I.2.1
  have hF := FUb
  have hwr := I.2.2 a ha
  have hh := K.2.2.2.2.1 a ha
  have Sm := inv_sml K I.2.2
  have ib20 : ib (nI (20 + a)) 24 := by rw [z_ib (by omega)]; omega
  have ib16 : ib (nI (16 + a)) 24 := by rw [z_ib (by omega)]; omega
  have ib4 : ib (nI a) 4 := by rw [z_ib (by omega)]; exact ha
  have c20 : (nI (20 + a)).toNatClampNeg = 20 + a := nI_clamp (by omega)
  have c16 : (nI (16 + a)).toNatClampNeg = 16 + a := nI_clamp (by omega)
  have cA : (nI a).toNatClampNeg = a := nI_clamp (by omega)
  by_cases c : tt_wr S.1 a = 12
  · refine ⟨w, S, ?_, h, I⟩
    rw [m_L_acts_j158]
    simp only [nI_add, if_pos ib20, c20, rl_wr h.2 ha]
    rw [c, if_neg (by exact fun q => q rfl)]
  have hw12 : tt_wr S.1 a < 12 := by omega
  obtain ⟨w2, e2⟩ : ∃ w2, w2 = va_up w N (fun _ => 0) := ⟨_, rfl⟩
  have g2 : ∀ k, k ≠ N → w2 k = w k := fun k hk => by rw [e2]; exact up_n hk
  have hR2 : RepL S.1 w2 := rl_fr h.2 (fun k _ hk => g2 k (by omega))
  obtain ⟨w4, a1, a2, a3⟩ := l_serve (q := N) hR2 Sm (p := tt_ho S.1 a) (by omega) (by omega) (by omega)
  have g4 : ∀ k, k ≠ N → w4 k = w k := fun k hk => by rw [a3 k hk, g2 k hk]
  have hR4 : RepL S.1 w4 := rl_fr h.2 (fun k _ hk => g4 k (by omega))
  obtain ⟨w7, e7⟩ : ∃ w7, w7 = wset w4 N a (nI (tt_wr S.1 a)) := ⟨_, rfl⟩
  have g7 : ∀ k, k ≠ N → w7 k = w k := fun k hk => by rw [e7, wset_ne hk, g4 k hk]
  have hP7 : RepO N w7 (wrG S.1 a) := by
    intro f hf
    have := repO_set a2 a (tt_wr S.1 a) f hf
    rw [e7, this]
    rfl
  have hR7 : RepL S.1 w7 := rl_fr h.2 (fun k _ hk => g7 k (by omega))
  have b0 := wrG_lt I ha 0 (by omega)
  have b1 := wrG_lt I ha 1 (by omega)
  have b2 := wrG_lt I ha 2 (by omega)
  have b3 := wrG_lt I ha 3 (by omega)
  have P0 : w7 N (nI 0).toNatClampNeg = nI (wrG S.1 a 0) := by rw [nI_clamp (by omega)]; exact hP7 0 (by omega)
  have P1 : w7 N (nI 1).toNatClampNeg = nI (wrG S.1 a 1) := by rw [nI_clamp (by omega)]; exact hP7 1 (by omega)
  have P2 : w7 N (nI 2).toNatClampNeg = nI (wrG S.1 a 2) := by rw [nI_clamp (by omega)]; exact hP7 2 (by omega)
  have P3 : w7 N (nI 3).toNatClampNeg = nI (wrG S.1 a 3) := by rw [nI_clamp (by omega)]; exact hP7 3 (by omega)
  obtain ⟨w14, e14⟩ : ∃ w14, w14 = wset w7 492 (12 * a + tt_wr S.1 a) (nI (wrG S.1 a 0 + 32 * wrG S.1 a 1 + 1024 * wrG S.1 a 2 + 32768 * wrG S.1 a 3)) := ⟨_, rfl⟩
  have n14 : w14 490 = w 490 := by rw [e14, wset_ne (by omega), g7 490 (by omega)]
  obtain ⟨w17, e17⟩ : ∃ w17, w17 = wset w14 490 (20 + a) (nI (tt_wr S.1 a + 1)) := ⟨_, rfl⟩
  have r490 : w17 490 = upd (w 490) (20 + a) (nI (tt_wr S.1 a + 1)) := by rw [e17, wset_same, n14]
  have r492 : w17 492 = upd (w 492) (12 * a + tt_wr S.1 a) (nI (wrG S.1 a 0 + 32 * wrG S.1 a 1 + 1024 * wrG S.1 a 2 + 32768 * wrG S.1 a 3)) := by rw [e17, wset_ne (by omega), e14, wset_same, g7 492 (by omega)]
  have g17 : ∀ k, k ≠ N → k ≠ 490 → k ≠ 492 → w17 k = w k := fun k k1 k2 k3 => by rw [e17, wset_ne k2, e14, wset_ne k3, g7 k k1]
  have hR17 := rl_wrT h.2 I ha hw12 r490 r492 (fun k k1 k2 k3 k4 => g17 k (by omega) k3 k4)
  have hP17 : RepO N w17 (wrG S.1 a) := fun f hf => by rw [e17, wset_ne (by omega), e14, wset_ne (by omega)]; exact hP7 f hf
  have I1 := li_wrT I ha hw12
  have hC17 : FC S w17 := fc_fr h.1 (fun k hk => g17 k (by omega) (by omega) (by omega))
  obtain ⟨T1, eT1⟩ : ∃ T1, T1 = wrT S.1 a := ⟨_, rfl⟩
  have w1a : tt_wr T1 a = tt_wr S.1 a + 1 := by rw [eT1]; exact up_s (tt_wr S.1) a _
  have ho1 : tt_ho T1 a = tt_ho S.1 a := by rw [eT1]; rfl
  have hn1 : tt_nu T1 0 = tt_nu S.1 0 := by rw [eT1]; rfl
  have hca1 : tt_ca T1 = setc (96 * a + 4 * tt_wr S.1 a) (wrG S.1 a) 4 (tt_ca S.1) := by rw [eT1]; rfl
  rw [← eT1] at hR17 I1
  have hup : upOk (tt_wr T1) (100 * a + (tt_wr S.1 a + 1)) := ⟨a, tt_wr S.1 a + 1, rfl, ha, by omega, by rw [w1a]; exact Nat.le_refl _⟩
  obtain ⟨w20, d1, d2, d3⟩ := l_arrive (N := N + 1) (fr := 8) hR17 I1 (p := tt_ho S.1 a) (by omega) (by omega) hup
  rw [lu_ov (by omega), show frC 8 = -1 from if_neg (by omega)] at d1
  have I2 := li_arrive (fr := 8) I1 (p := tt_ho S.1 a) (by omega) hup
  have fx := arrive_fx T1 (p := tt_ho S.1 a) (by omega) 8 (100 * a + (tt_wr S.1 a + 1))
  obtain ⟨T2, eT2⟩ : ∃ T2, T2 = arrive T1 (tt_ho S.1 a) 8 (100 * a + (tt_wr S.1 a + 1)) := ⟨_, rfl⟩
  rw [← eT2] at d2 I2 fx
  have hC20 : FC S w20 := fc_fr hC17 (fun k hk => d3.row (Or.inl hk))
  obtain ⟨w21, f1, f2⟩ := f_write hC20 (nI a)
  have ew : sp_write S.1 a = (nI (tt_wr S.1 a + 1), T2) := by
    unfold sp_write
    rw [if_pos ha, if_pos (by omega), eT2, eT1]
  have x1 : (o_write S (nI a)).1 = nI (tt_wr S.1 a + 1) := by unfold o_write; rw [cl_1, dn_nI (by omega), ew]
  have x2 : (o_write S (nI a)).2.1 = T2 := by unfold o_write; rw [cl_2, dn_nI (by omega), ew]
  generalize (o_write S (nI a)).1 = ans at f1 x1
  generalize (o_write S (nI a)).2 = S2 at f2 x2
  subst x1
  subst x2
  have hC22 : FC S2 (wj w21 w20) := fc_wj f2
  have hR22 : RepL S2.1 (wj w21 w20) := rl_wj d2
  have w2a : tt_wr S2.1 a = tt_wr S.1 a + 1 := by rw [fx.2.2.1]; exact w1a
  have hP22 : RepO N (wj w21 w20) (wrG S.1 a) := fun f hf => by rw [wj_hi (by omega), d3.row (Or.inr ⟨hN, by omega⟩)]; exact hP17 f hf
  have L := l_ac_L318 hC22 hR22 I2 (a := a) (N := N) (N' := N + 1) (G := wrG S.1 a) ha (by omega) (fun f hf => by
    rw [fx.2.2.2.1, hca1, w2a, Nat.add_sub_cancel]
    exact setc_in _ _ _ 4 f hf) hP22 4 FU 0 (by omega) (by omega)
  refine ⟨wj w21 w20, S2, ?_, ⟨hC22, hR22⟩, I2⟩
  rw [m_L_acts_j158]
  simp only [nI_add, pk_mul, if_pos ib20, if_pos ib16, if_pos ib4, c20, c16, cA, lt_eq]
  rw [rl_wr h.2 ha, if_pos (by rw [z_eq (by omega) (by omega)]; omega), ← e2, rl_ho hR2 ha, a1, b_b, rl_wr hR4 ha, ← e7, if_pos (by decide), if_pos (by decide), if_pos (by decide), if_pos (by decide), rl_wr hR7 ha, nI_add, if_pos (by rw [z_ib (by omega)]; omega), P0, P1, P2, P3, z_pack (by omega) (by omega) (by omega) (by omega), nI_clamp (show 12 * a + tt_wr S.1 a < 2 ^ 31 by omega), ← e14, n14, rl_wr h.2 ha, nI_add, ← e17, r490, upd_n (show 16 + a ≠ 20 + a by omega), rl_ho h.2 ha, upd_s, nI_add, d1, b_b, f1, b_b, rl_wr hR22 ha, w2a, if_neg (by exact fun q => q rfl), m_L_acts_j313]
  exact L
theorem l_ac_ask (h : FL S S.1 w) (I : LI S.1) {p N : Nat} (hN : 497 ≤ N) (hp : p < tt_nu S.1 0) : ∃ (w' : Wd) (S' : ST), (if ¬ nI p = 0 then (m_L_ask N (nI p) w).bind fun o11 => m_L_acts_j393 N (nI p) o11.1 o11.2 else m_L_acts_j393 N (nI p) (-1 : Int32) w) = some (nI 1, w') ∧ FL S' S'.1 w' ∧ LI S'.1 := by
  have h5 := I.2.1
  have ak : ∀ (T2 : TT) (w2 : Wd), FL S T2 w2 → ∃ w3, m_X7_ask (nI p) w2 = some ((sp_ask S.1 p).1, w3) ∧ FL (o_ask S (nI p)).2 T2 (wj w3 w2) ∧ (o_ask S (nI p)).2.1 = (sp_ask S.1 p).2 := by
    intro T2 w2 h2
    obtain ⟨w3, a1, a2⟩ := f_ask h2.1 (nI p)
    refine ⟨w3, ?_, fl_wj h2 a2, ?_⟩
    · rw [a1]; unfold o_ask; rw [cl_1, dn_nI (by omega)]
    · unfold o_ask; rw [cl_2, dn_nI (by omega)]
  by_cases z : p = 0
  · subst z
    obtain ⟨w3, r1, r2, r3⟩ := ak S.1 w h
    have e : sp_ask S.1 0 = (-1, S.1) := by unfold sp_ask; rw [if_neg (by omega)]
    rw [e] at r1 r3
    rw [if_neg (by decide), m_L_acts_j393, r1, b_b, lt_eq, if_neg (by decide), m_L_acts_j424, if_neg (by exact fun q => q rfl)]
    refine ⟨_, _, rfl, ⟨r2.1, ?_⟩, ?_⟩
    · rw [r3]; exact r2.2
    · rw [r3]; exact I
  · obtain ⟨w1, a1, a2, a3, a4, a5⟩ := l_ask h.2 I (N := N) (p := p) hN (by omega) hp
    have hF1 : FL S (askA S.1 p).2.2.2 w1 := fl_x h a2 a5
    obtain ⟨w3, r1, r2, r3⟩ := ak _ w1 hF1
    have e : sp_ask S.1 p = (if (askA S.1 p).1 = 0 ∧ (askA S.1 p).2.1 = 0 then -9 else nI (askA S.1 p).2.2.1, (askA S.1 p).2.2.2) := by unfold sp_ask; rw [if_pos ⟨by omega, hp⟩]
    rw [e] at r1 r3
    obtain ⟨-, -, k1, k2, -, -⟩ := askL_ok (p := p) p 1 (0, 0, 0, S.1) (by omega) I.K
    change (askA S.1 p).1 ≤ 0 + 96 * p at k1
    change (askA S.1 p).2.1 ≤ 0 + 96 * p at k2
    have h7 : wj w3 w1 490 (nI 7).toNatClampNeg = nI ((askA S.1 p).1 + (askA S.1 p).2.1) := by rw [nI_clamp (by omega), wj_hi (by omega)]; exact a4
    rw [if_pos (by rw [z_eq0 (by omega)]; exact z), a1, b_b, m_L_acts_j393, r1, b_b, lt_eq, if_pos (by rw [z_eq0 (by omega)]; exact z), if_pos (by decide), h7]
    by_cases c : (askA S.1 p).1 = 0 ∧ (askA S.1 p).2.1 = 0
    · rw [if_neg (by rw [z_eq0 (by omega)]; omega), if_pos c, m_L_acts_j424, if_neg (by exact fun q => q rfl)]
      refine ⟨_, _, rfl, ⟨r2.1, ?_⟩, ?_⟩
      · rw [r3]; exact r2.2
      · rw [r3]; exact a3
    · rw [if_pos (by rw [z_eq0 (by omega)]; omega), if_neg c, m_L_acts_j424, if_neg (by exact fun q => q rfl)]
      refine ⟨_, _, rfl, ⟨r2.1, ?_⟩, ?_⟩
      · rw [r3]; exact r2.2
      · rw [r3]; exact a3
theorem drop_va {T : TT} {q k : Nat} (f : Nat → List Nat) : va_up (va_up (tt_li T) q ((tt_li T q).drop 1)) q (((tt_li T q).drop 1).drop k) = va_up (tt_li T) q ((tt_li T q).drop (k + 1)) := by
  rw [va_va, List.drop_drop, Nat.add_comm 1 k]
theorem l_ac_L547 {r d p c N : Nat} (hrd : r = 493 ∧ d = 8 ∨ r = 494 ∧ d = 16) (h1 : 1 ≤ p) (hp : p < 5) (hc : c ≤ 9) (x16 : Int32) (kx : Int32 → Wd → Option (Int32 × Wd)) : ∀ (m n k : Nat) (T : TT) (w : Wd), k + m = c → m < n → RepL T w → LI T → ∃ w', m_L_acts_L547 N r (nI p) (nI c) x16 kx n (nI k) w = kx (nI (k + min m (tt_li T (d + p)).length)) w' ∧ RepL (ts_li T (va_up (tt_li T) (d + p) ((tt_li T (d + p)).drop (min m (tt_li T (d + p)).length)))) w' ∧ LFr N w w' := by
  have hrd3 : rdOk r d := by rcases hrd with e | e; exact Or.inl e; exact Or.inr (Or.inl e)
  have hd : d + p < 24 ∧ 8 ≤ d + p := by rcases hrd with ⟨-, rfl⟩ | ⟨-, rfl⟩ <;> omega
  have same : ∀ T : TT, ts_li T (va_up (tt_li T) (d + p) ((tt_li T (d + p)).drop 0)) = T := by
    intro T
    have : va_up (tt_li T) (d + p) ((tt_li T (d + p)).drop 0) = tt_li T := by
      funext j
      by_cases c : j = d + p
      · subst c; rw [up_s]; rfl
      · rw [up_n c]
    rw [this]
  intro m
  induction m with
  | zero =>
    intro n k T w hk hn h I
    obtain ⟨n, rfl⟩ : ∃ m, n = m + 1 := ⟨n - 1, by omega⟩
    refine ⟨w, ?_, ?_, LFr.rf⟩
    · rw [m_L_acts_L547, if_pos (by rw [z_le (by omega) (by omega)]; omega), Nat.zero_min]; rfl
    · rw [Nat.zero_min, same]; exact h
  | succ m ih =>
    intro n k T w hk hn h I
    obtain ⟨n, rfl⟩ : ∃ m, n = m + 1 := ⟨n - 1, by omega⟩
    have h12 := it_q12 I.K (d + p) hd.2 hd.1
    have hr := (rl_get h hrd3 h1 hp).1
    rw [m_L_acts_L547, if_neg (by rw [z_le (by omega) (by omega)]; omega), e13 h1, if_pos (by rw [z_ib (by omega)]; omega), nI_clamp (by omega), hr]
    by_cases z : (tt_li T (d + p)).length = 0
    · refine ⟨w, ?_, ?_, LFr.rf⟩
      · rw [if_pos (by rw [z_le0 (by omega)]; exact z), z, Nat.min_zero]; rfl
      · rw [z, Nat.min_zero, same]; exact h
    · obtain ⟨w1, a1, a2, a3⟩ := l_take h (inv_len I.K) N hrd h1 hp z
      have hlt : 0 < (tt_li T (d + p)).length := by omega
      have hup := I.K.2.2.2.2.2.2.2.2.2.1 (d + p) _ hd.1 (List.getElem_mem hlt)
      have hv := val12_lu (up_val12 hup I.2.2)
      have hx : (tt_li T (d + p)).getD 0 0 = (tt_li T (d + p))[0] := so_at (T := T) hlt
      have I1 : LI (ts_li T (va_up (tt_li T) (d + p) ((tt_li T (d + p)).drop 1))) := I.of (drop_inv I.K hd.2 1) (drop_fx T (by omega) (by omega) 1)
      obtain ⟨w', b1, b2, b3⟩ := ih n (k + 1) _ w1 (by omega) (by omega) a2 I1
      have el : tt_li (ts_li T (va_up (tt_li T) (d + p) ((tt_li T (d + p)).drop 1))) (d + p) = (tt_li T (d + p)).drop 1 := up_s _ _ _
      rw [el, List.length_drop] at b1 b2
      have em : min (m + 1) (tt_li T (d + p)).length = min m ((tt_li T (d + p)).length - 1) + 1 := by omega
      refine ⟨w', ?_, ?_, a3.tr b3⟩
      · rw [if_neg (by rw [z_le0 (by omega)]; exact z), a1, b_b]
        have hpos : ¬ nI (lu ((tt_li T (d + p)).getD 0 0)) ≤ 0 := by
          rw [hx, z_le0 (by omega)]
          obtain ⟨v1, v2, v3, v4, v5, v6, v7⟩ := hv
          intro q
          rw [q] at v3
          omega
        rw [if_neg hpos, m_L_acts_j584, lt_eq, nI_add, em, show k + (min m ((tt_li T (d + p)).length - 1) + 1) = k + 1 + min m ((tt_li T (d + p)).length - 1) by omega]
        exact b1
      · rw [em, ← drop_va (fun _ => [])]
        exact b2
theorem l_ac_lose (h : FL S S.1 w) (I : LI S.1) {p c N r d way : Nat} (hN : 497 ≤ N) (hrd : r = 493 ∧ d = 8 ∧ way = 0 ∨ r = 494 ∧ d = 16 ∧ way = 1) (hp : p < tt_nu S.1 0) (hc1 : 1 ≤ c) (hc : c ≤ 9) : ∃ (w' : Wd) (S' : ST), m_L_acts_j494 N r (nI p) (nI c) (nI way) w = some (nI 1, w') ∧ FL S' S'.1 w' ∧ LI S'.1 := by
  have K := I.K
  have h5 := I.2.1
  have hF := FUb
  have hrd2 : r = 493 ∧ d = 8 ∨ r = 494 ∧ d = 16 := by rcases hrd with e | e; exact Or.inl ⟨e.1, e.2.1⟩; exact Or.inr ⟨e.1, e.2.1⟩
  have hrd3 : rdOk r d := by rcases hrd2 with e | e; exact Or.inl e; exact Or.inr (Or.inl e)
  have hw2 : way < 2 := by rcases hrd with e | e <;> omega
  have hlo : ∀ (T2 : TT) (w2 : Wd), FL S T2 w2 → ∃ w3, m_X7_lose (nI p) (nI way) (nI c) w2 = some ((sp_lose S.1 p way c).1, w3) ∧ FL (o_lose S (nI p) (nI way) (nI c)).2 T2 (wj w3 w2) ∧ (o_lose S (nI p) (nI way) (nI c)).2.1 = (sp_lose S.1 p way c).2 := by
    intro T2 w2 h2
    obtain ⟨w3, a1, a2⟩ := f_lose h2.1 (nI p) (nI way) (nI c)
    refine ⟨w3, ?_, fl_wj h2 a2, ?_⟩
    · rw [a1]; unfold o_lose; rw [cl_1, dn_nI (by omega), dn_nI (by omega), dn_nI (by omega)]
    · unfold o_lose; rw [cl_2, dn_nI (by omega), dn_nI (by omega), dn_nI (by omega)]
  by_cases z : p = 0
  · subst z
    obtain ⟨w3, r1, r2, r3⟩ := hlo S.1 w h
    have e : sp_lose S.1 0 way c = (-1, S.1) := by unfold sp_lose; rw [if_neg (by omega)]
    rw [e] at r1 r3
    rw [m_L_acts_j494, if_pos (by rfl), m_L_acts_j514, r1, b_b, lt_eq, if_neg (by decide), m_L_acts_j535, if_neg (by exact fun q => q rfl)]
    refine ⟨_, _, rfl, ⟨r2.1, ?_⟩, ?_⟩
    · rw [r3]; exact r2.2
    · rw [r3]; exact I
  · have h1 : 1 ≤ p := by omega
    have hd : d + p < 24 ∧ 8 ≤ d + p ∧ qi p way = d + p := by
      rcases hrd with ⟨-, rfl, rfl⟩ | ⟨-, rfl, rfl⟩
      · exact ⟨by omega, by omega, by unfold qi; rw [if_pos rfl]⟩
      · exact ⟨by omega, by omega, by unfold qi; rw [if_neg (by decide)]⟩
    have h12 := it_q12 K (d + p) hd.2.1 hd.1
    have hr := (rl_get h.2 hrd3 h1 (by omega)).1
    rw [m_L_acts_j494, if_neg (by rw [z_eq0 (by omega)]; exact z), e13 h1, if_pos (by rw [z_ib (by omega)]; omega), nI_clamp (by omega), hr]
    by_cases g : (tt_li S.1 (d + p)).length = 0
    · obtain ⟨w3, r1, r2, r3⟩ := hlo S.1 w h
      have e : sp_lose S.1 p way c = (-2, S.1) := by unfold sp_lose; rw [if_pos ⟨⟨⟨h1, hp⟩, hw2⟩, hc1, hc⟩, hd.2.2, if_pos g]
      rw [e] at r1 r3
      rw [if_neg (by rw [z_eq0 (by omega)]; exact fun q => q g), m_L_acts_j514, r1, b_b, lt_eq, if_pos (by rw [z_eq0 (by omega)]; exact z), m_L_acts_j535, if_neg (by exact fun q => q rfl)]
      refine ⟨_, _, rfl, ⟨r2.1, ?_⟩, ?_⟩
      · rw [r3]; exact r2.2
      · rw [r3]; exact I
    · have e : sp_lose S.1 p way c = (nI (min c (tt_li S.1 (d + p)).length), ts_nu (ts_li S.1 (va_up (tt_li S.1) (d + p) ((tt_li S.1 (d + p)).drop (min c (tt_li S.1 (d + p)).length)))) (va_up (tt_nu S.1) 5 (tt_nu S.1 5 + min c (tt_li S.1 (d + p)).length))) := by
        unfold sp_lose
        rw [if_pos ⟨⟨⟨h1, hp⟩, hw2⟩, hc1, hc⟩, hd.2.2, if_neg g]
      obtain ⟨w1, a1, a2, a3⟩ := l_ac_L547 (N := N) hrd2 h1 (show p < 5 by omega) hc (nI way) (fun x17_2 w3 => m_L_acts_j590 N (nI p) (nI c) (nI way) x17_2 w3) c FU 0 S.1 w (by omega) (by omega) h.2 I
      rw [Nat.zero_add] at a1
      have h5w : w1 490 (nI 5).toNatClampNeg = nI (tt_nu S.1 5) := by rw [nI_clamp (by omega)]; exact rl_nu a2 (j := 5) (by omega)
      have hR2 := rl_set_nu a2 (j := 5) (by omega) (tt_nu S.1 5 + min c (tt_li S.1 (d + p)).length)
      have hF2 : FL S _ (wset w1 490 5 (nI (tt_nu S.1 5 + min c (tt_li S.1 (d + p)).length))) := fl_x h hR2 (a3.x.tr (fun k hk => (wset_ne (by omega) : wset w1 490 5 (nI (tt_nu S.1 5 + min c (tt_li S.1 (d + p)).length)) k = w1 k)))
      obtain ⟨w3, r1, r2, r3⟩ := hlo _ _ hF2
      rw [e] at r1 r3
      have IQ := iq_lose I.1 p way c
      rw [e] at IQ
      rw [if_pos (by rw [z_eq0 (by omega)]; exact g)]
      refine ⟨wj w3 (wset w1 490 5 (nI (tt_nu S.1 5 + min c (tt_li S.1 (d + p)).length))), (o_lose S (nI p) (nI way) (nI c)).2, Eq.trans a1 ?_, ⟨r2.1, ?_⟩, ?_⟩
      · rw [m_L_acts_j590, if_pos (by decide), if_pos (by decide), h5w, show (nI 5).toNatClampNeg = 5 from nI_clamp (by omega), nI_add, lt_eq, r1, b_b, lt_eq, if_neg (by exact fun q => q rfl)]
      · rw [r3]; exact r2.2
      · rw [r3]
        refine ⟨IQ, ?_, I.2.2⟩
        show va_up (tt_nu S.1) 5 (tt_nu S.1 5 + min c (tt_li S.1 (d + p)).length) 0 ≤ 5
        rw [up_n (by decide)]
        exact I.2.1
theorem l_ac_L708 {r d p c N way : Nat} (hN : 497 ≤ N) (hrd : r = 493 ∧ d = 8 ∧ way = 0 ∨ r = 494 ∧ d = 16 ∧ way = 1) (h1 : 1 ≤ p) (hc : c ≤ 9) {P : Nat} (kx : Int32 → Wd → Option (Int32 × Wd)) : ∀ (m n k a : Nat) (T : TT) (w : Wd), k + m = c → m < n → RepL T w → LI T → p < tt_nu T 0 → tt_pa T p = P → ∃ w', m_L_acts_L708 N r (nI p) (nI c) (nI way) kx n (nI a) (nI k) w = kx (nI (a + (dlv (if way = 0 then P else p) (if way = 0 then p else P) (d + p) m T).1)) w' ∧ RepL (dlv (if way = 0 then P else p) (if way = 0 then p else P) (d + p) m T).2 w' ∧ LFr N w w' := by
  have hrd2 : r = 493 ∧ d = 8 ∨ r = 494 ∧ d = 16 := by rcases hrd with e | e; exact Or.inl ⟨e.1, e.2.1⟩; exact Or.inr ⟨e.1, e.2.1⟩
  have hrd3 : rdOk r d := by rcases hrd2 with e | e; exact Or.inl e; exact Or.inr (Or.inl e)
  intro m
  induction m with
  | zero =>
    intro n k a T w hk hn h I hp hP
    obtain ⟨n, rfl⟩ : ∃ m, n = m + 1 := ⟨n - 1, by omega⟩
    exact ⟨w, by rw [m_L_acts_L708, if_pos (by rw [z_le (by omega) (by omega)]; omega)]; rfl, h, LFr.rf⟩
  | succ m ih =>
    intro n k a T w hk hn h I hp hP
    obtain ⟨n, rfl⟩ : ∃ m, n = m + 1 := ⟨n - 1, by omega⟩
    have K := I.K
    have h5 := I.2.1
    have hd : d + p < 24 ∧ 8 ≤ d + p ∧ d + p ≠ 8 ∧ d + p ≠ 16 := by rcases hrd2 with ⟨-, rfl⟩ | ⟨-, rfl⟩ <;> omega
    have hPp := K.2.2.2.1.2 p h1 (by omega)
    rw [hP] at hPp
    have h12 := it_q12 K (d + p) hd.2.1 hd.1
    have hr := (rl_get h hrd3 h1 (by omega)).1
    rw [m_L_acts_L708, if_neg (by rw [z_le (by omega) (by omega)]; omega), e13 h1, if_pos (by rw [z_ib (by omega)]; omega), nI_clamp (by omega), hr, dlv]
    by_cases z : (tt_li T (d + p)).length = 0
    · rw [if_pos z, if_pos (by rw [z_le0 (by omega)]; exact z)]
      exact ⟨w, rfl, h, LFr.rf⟩
    · rw [if_neg z, if_neg (by rw [z_le0 (by omega)]; exact z)]
      obtain ⟨w1, a1, a2, a3⟩ := l_take h (inv_len K) N hrd2 h1 (by omega) z
      have hlt : 0 < (tt_li T (d + p)).length := by omega
      have hup := K.2.2.2.2.2.2.2.2.2.1 (d + p) _ hd.1 (List.getElem_mem hlt)
      rw [← so_at (T := T) hlt] at hup
      obtain ⟨u, eu⟩ : ∃ u, u = (tt_li T (d + p)).getD 0 0 := ⟨_, rfl⟩
      rw [← eu] at hup a1 ⊢
      have I1 : LI (ts_li T (va_up (tt_li T) (d + p) ((tt_li T (d + p)).drop 1))) := I.of (drop_inv K hd.2.1 1) (drop_fx T hd.2.2.1 hd.2.2.2 1)
      obtain ⟨T1, eT1⟩ : ∃ T1, T1 = ts_li T (va_up (tt_li T) (d + p) ((tt_li T (d + p)).drop 1)) := ⟨_, rfl⟩
      have hwr1 : tt_wr T1 = tt_wr T := by rw [eT1]
      have hn1 : tt_nu T1 0 = tt_nu T 0 := by rw [eT1]
      have hp1 : tt_pa T1 = tt_pa T := by rw [eT1]
      rw [← eT1] at a2 I1 ⊢
      obtain ⟨tg, etg⟩ : ∃ tg, tg = if way = 0 then P else p := ⟨_, rfl⟩
      obtain ⟨fm, efm⟩ : ∃ fm, fm = if way = 0 then p else P := ⟨_, rfl⟩
      have htg : tg < tt_nu T 0 := by rw [etg]; split <;> omega
      have hfm : fm < 8 := by rw [efm]; split <;> omega
      rw [← etg, ← efm]
      obtain ⟨w2, b1, b2, b3⟩ := l_arrive (N := N) (p := tg) (fr := fm) a2 I1 hN (by omega) (by rw [hwr1]; exact hup)
      rw [show frC fm = nI fm from if_pos hfm] at b1
      have I2 := li_arrive (fr := fm) I1 (p := tg) (by omega) (by rw [hwr1]; exact hup)
      have fx := arrive_fx T1 (p := tg) (by omega) fm u
      obtain ⟨w', g1, g2, g3⟩ := ih n (k + 1) (a + if arrTold T1 tg fm u = 1 then 1 else 0) (arrive T1 tg fm u) w2 (by omega) (by omega) b2 I2 (by rw [fx.2.2.2.2.1, hn1]; exact hp) (by rw [fx.1, hp1]; exact hP)
      rw [← etg, ← efm] at g1 g2
      refine ⟨w', ?_, g2, (a3.tr b3).tr g3⟩
      have told := arrTold_le T1 tg fm u
      have J790 : m_L_acts_j790 N r (nI p) (nI c) (nI way) (nI k) (nI a) (nI tg) (nI (lu u)) (nI fm) w1 (m_L_acts_L708 N r (nI p) (nI c) (nI way) kx n) kx = kx (nI (a + ((dlv tg fm (d + p) m (arrive T1 tg fm u)).1 + if arrTold T1 tg fm u = 1 then 1 else 0))) w' := by
        rw [m_L_acts_j790, b1, b_b]
        by_cases t1 : arrTold T1 tg fm u = 1
        · rw [if_pos t1] at g1 ⊢
          rw [t1, show tl 1 = nI 1 from rfl, if_neg (by exact (by decide : ¬ nI 1 ≤ 0)), m_L_acts_j801, lt_eq, nI_add, nI_add, show a + ((dlv tg fm (d + p) m (arrive T1 tg fm u)).1 + 1) = a + 1 + (dlv tg fm (d + p) m (arrive T1 tg fm u)).1 by omega]
          exact g1
        · rw [if_neg t1] at g1 ⊢
          have hle : tl (arrTold T1 tg fm u) ≤ 0 := by
            unfold tl
            by_cases t0 : arrTold T1 tg fm u = 0
            · rw [if_pos t0]; decide
            · rw [if_neg t0, if_pos (by omega)]; decide
          rw [if_pos hle, m_L_acts_j801, lt_eq, nI_add, nI_add]
          exact g1
      rw [a1, b_b]
      dsimp only
      have hpar : w1 490 (8 + p) = nI P := by rw [rl_pa a2 (by omega), hp1, hP]
      rcases hrd with ⟨-, -, rfl⟩ | ⟨-, -, rfl⟩
      · rw [if_pos rfl] at etg efm
        subst etg; subst efm
        rw [if_neg (by decide), nI_add, if_pos (by rw [z_ib (by omega)]; omega), nI_clamp (by omega), hpar, m_L_acts_j754, if_neg (by decide)]
        exact J790
      · rw [if_neg (by decide)] at etg efm
        subst etg; subst efm
        rw [if_pos (by decide), m_L_acts_j754, if_pos (by decide), nI_add, if_pos (by rw [z_ib (by omega)]; omega), nI_clamp (by omega), hpar]
        exact J790
theorem l_ac_deliver (h : FL S S.1 w) (I : LI S.1) {p c N r d way : Nat} (hN : 497 ≤ N) (hrd : r = 493 ∧ d = 8 ∧ way = 0 ∨ r = 494 ∧ d = 16 ∧ way = 1) (hp : p < tt_nu S.1 0) (hc1 : 1 ≤ c) (hc : c ≤ 9) : ∃ (w' : Wd) (S' : ST), m_L_acts_j652 N r (nI p) (nI c) (nI way) w = some (nI 1, w') ∧ FL S' S'.1 w' ∧ LI S'.1 := by
  have K := I.K
  have h5 := I.2.1
  have hrd2 : r = 493 ∧ d = 8 ∨ r = 494 ∧ d = 16 := by rcases hrd with e | e; exact Or.inl ⟨e.1, e.2.1⟩; exact Or.inr ⟨e.1, e.2.1⟩
  have hrd3 : rdOk r d := by rcases hrd2 with e | e; exact Or.inl e; exact Or.inr (Or.inl e)
  have hw2 : way < 2 := by rcases hrd with e | e <;> omega
  have hde : ∀ (T2 : TT) (w2 : Wd), FL S T2 w2 → ∃ w3, m_X7_deliver (nI p) (nI way) (nI c) w2 = some ((sp_deliver S.1 p way c).1, w3) ∧ FL (o_deliver S (nI p) (nI way) (nI c)).2 T2 (wj w3 w2) ∧ (o_deliver S (nI p) (nI way) (nI c)).2.1 = (sp_deliver S.1 p way c).2 := by
    intro T2 w2 h2
    obtain ⟨w3, a1, a2⟩ := f_deliver h2.1 (nI p) (nI way) (nI c)
    refine ⟨w3, ?_, fl_wj h2 a2, ?_⟩
    · rw [a1]; unfold o_deliver; rw [cl_1, dn_nI (by omega), dn_nI (by omega), dn_nI (by omega)]
    · unfold o_deliver; rw [cl_2, dn_nI (by omega), dn_nI (by omega), dn_nI (by omega)]
  by_cases z : p = 0
  · subst z
    obtain ⟨w3, r1, r2, r3⟩ := hde S.1 w h
    have e : sp_deliver S.1 0 way c = (-1, S.1) := by unfold sp_deliver; rw [if_neg (by omega)]
    rw [e] at r1 r3
    rw [m_L_acts_j652, if_pos (by rfl), m_L_acts_j672, r1, b_b, lt_eq, if_neg (by decide), m_L_acts_j693, if_neg (by exact fun q => q rfl)]
    refine ⟨_, _, rfl, ⟨r2.1, ?_⟩, ?_⟩
    · rw [r3]; exact r2.2
    · rw [r3]; exact I
  · have h1 : 1 ≤ p := by omega
    have hd : d + p < 24 ∧ 8 ≤ d + p ∧ qi p way = d + p ∧ d + p ≠ 8 ∧ d + p ≠ 16 := by
      rcases hrd with ⟨-, rfl, rfl⟩ | ⟨-, rfl, rfl⟩
      · exact ⟨by omega, by omega, by unfold qi; rw [if_pos rfl], by omega, by omega⟩
      · exact ⟨by omega, by omega, by unfold qi; rw [if_neg (by decide)], by omega, by omega⟩
    have h12 := it_q12 K (d + p) hd.2.1 hd.1
    have hPp := K.2.2.2.1.2 p h1 (by omega)
    have hr := (rl_get h.2 hrd3 h1 (by omega)).1
    rw [m_L_acts_j652, if_neg (by rw [z_eq0 (by omega)]; exact z), e13 h1, if_pos (by rw [z_ib (by omega)]; omega), nI_clamp (by omega), hr]
    by_cases g : (tt_li S.1 (d + p)).length = 0
    · obtain ⟨w3, r1, r2, r3⟩ := hde S.1 w h
      have e : sp_deliver S.1 p way c = (-2, S.1) := by unfold sp_deliver; rw [if_pos ⟨⟨⟨h1, hp⟩, hw2⟩, hc1, hc⟩, hd.2.2.1, if_pos g]
      rw [e] at r1 r3
      rw [if_neg (by rw [z_eq0 (by omega)]; exact fun q => q g), m_L_acts_j672, r1, b_b, lt_eq, if_pos (by rw [z_eq0 (by omega)]; exact z), m_L_acts_j693, if_neg (by exact fun q => q rfl)]
      refine ⟨_, _, rfl, ⟨r2.1, ?_⟩, ?_⟩
      · rw [r3]; exact r2.2
      · rw [r3]; exact I
    · obtain ⟨R, eR⟩ : ∃ R, R = dlv (if way = 0 then tt_pa S.1 p else p) (if way = 0 then p else tt_pa S.1 p) (d + p) c S.1 := ⟨_, rfl⟩
      have e : sp_deliver S.1 p way c = (nI R.1, R.2) := by
        unfold sp_deliver
        rw [if_pos ⟨⟨⟨h1, hp⟩, hw2⟩, hc1, hc⟩, hd.2.2.1, if_neg g, ← eR]
      obtain ⟨w1, a1, a2, a3⟩ := l_ac_L708 (N := N) hN hrd h1 hc (P := tt_pa S.1 p) (fun x20_2 w3 => m_L_acts_j810 N (nI p) (nI c) (nI way) x20_2 w3) c 10 0 0 S.1 w (by omega) (by omega) h.2 I hp rfl
      rw [← eR, Nat.zero_add] at a1
      rw [← eR] at a2
      have hF2 : FL S R.2 w1 := fl_x h a2 a3.x
      obtain ⟨w3, r1, r2, r3⟩ := hde _ _ hF2
      rw [e] at r1 r3
      obtain ⟨k1, k2, -⟩ := dlv_ok (if way = 0 then tt_pa S.1 p else p) (if way = 0 then p else tt_pa S.1 p) (d + p) (by split <;> omega) hd.2.1 hd.1 hd.2.2.2.1 hd.2.2.2.2 c S.1 K
      rw [← eR] at k1 k2
      rw [if_pos (by rw [z_eq0 (by omega)]; exact g)]
      refine ⟨_, (o_deliver S (nI p) (nI way) (nI c)).2, Eq.trans a1 ?_, ⟨r2.1, ?_⟩, ?_⟩
      · rw [m_L_acts_j810, r1, b_b, lt_eq, if_neg (by exact fun q => q rfl)]
      · rw [r3]; exact r2.2
      · rw [r3]; exact I.of k1 k2
theorem l_acts (h : FL S S.1 w) (I : LI S.1) {N : Nat} (hN : 497 ≤ N) (z : Int32) : ∃ (w' : Wd) (S' : ST), m_L_acts N z w = some (nI 1, w') ∧ FL S' S'.1 w' ∧ LI S'.1 := by
  have h5 := I.2.1
  have hn0 : w 490 (nI 0).toNatClampNeg = nI (tt_nu S.1 0) := by rw [nI_clamp (by omega)]; exact rl_nu h.2 (j := 0) (by omega)
  have np := I.K.1.1
  obtain ⟨p, hp, e2⟩ := l_lowE (z >>> (nI 5 &&& 31)) (n := tt_nu S.1 0) (by omega) (by omega)
  obtain ⟨a, ha, e3⟩ := l_lowE (z >>> (nI 9 &&& 31)) (n := 4) (by omega) (by omega)
  obtain ⟨c, hc, e4⟩ := l_lowE (z >>> (nI 11 &&& 31)) (n := 9) (by omega) (by omega)
  obtain ⟨k, hk, e6⟩ := l_lowE z (n := 16) (by omega) (by omega)
  obtain ⟨b, hb, e15⟩ := l_lowE (z >>> (nI 15 &&& 31)) (n := 2) (by omega) (by omega)
  rw [m_L_acts, if_pos (by decide), hn0, e2, b_b, e3, b_b, e4, b_b, lt_eq, nI_add, e6, b_b]
  have ck : ∀ j : Nat, j < 16 → (nI k = nI j) = (k = j) := fun j hj => z_eq (by omega) (by omega)
  by_cases k0 : k = 0
  · rw [if_pos (by rw [ck 0 (by omega)]; exact k0)]
    obtain ⟨r, hr, e7⟩ := l_lowE (z >>> (nI 5 &&& 31)) (n := 9) (by omega) (by omega)
    obtain ⟨b2, hb2, e10⟩ := l_lowE (z >>> (nI 14 &&& 31)) (n := 2) (by omega) (by omega)
    rw [e7, b_b, if_pos (by decide), show (nI 1).toNatClampNeg = 1 from nI_clamp (by omega), lt_eq, e10, b_b]
    have go : ∀ M : Nat, 0 < M → M ≤ 12 → ∃ (w' : Wd) (S' : ST), m_L_acts_j134 N (nI 2) (nI 1) (z >>> (nI 9 &&& 31)) (nI M) (wset w 490 1 (nI r)) = some (nI 1, w') ∧ FL S' S'.1 w' ∧ LI S'.1 := by
      intro M hM1 hM
      obtain ⟨m, hm, e1⟩ := l_lowE (z >>> (nI 9 &&& 31)) (n := M) hM1 (by omega)
      have g1 : wset (wset w 490 1 (nI r)) 490 2 (nI (1 + m)) 490 1 = nI r := by rw [wset_same, upd_n (by omega), wset_same, upd_s]
      have g2 : wset (wset w 490 1 (nI r)) 490 2 (nI (1 + m)) 490 2 = nI (1 + m) := by rw [wset_same, upd_s]
      obtain ⟨w', S', q1, q2, q3⟩ := l_ac_lim (N := N) h I hr (show m < 12 by omega)
      refine ⟨w', S', ?_, q2, q3⟩
      rw [m_L_acts_j134, e1, b_b, if_pos (by decide), nI_add, lt_eq, if_pos (by decide), if_pos (by decide), show (nI 2).toNatClampNeg = 2 from nI_clamp (by omega), show (nI 1).toNatClampNeg = 1 from nI_clamp (by omega), g1, g2]
      exact q1
    by_cases q : b2 = 0
    · rw [if_neg (by rw [q]; decide)]
      exact go 4 (by omega) (by omega)
    · rw [if_pos (by rw [z_eq0 (by omega)]; exact q)]
      exact go 12 (by omega) (by omega)
  rw [if_neg (by rw [ck 0 (by omega)]; exact k0)]
  by_cases k1 : k = 1
  · rw [if_pos (by rw [ck 1 (by omega)]; exact k1)]
    exact l_ac_write h I hN ha
  rw [if_neg (by rw [ck 1 (by omega)]; exact k1)]
  by_cases k2 : k = 2
  · rw [if_pos (by rw [ck 2 (by omega)]; exact k2)]
    exact l_ac_write h I hN ha
  rw [if_neg (by rw [ck 2 (by omega)]; exact k2)]
  by_cases k3 : k = 3
  · rw [if_pos (by rw [ck 3 (by omega)]; exact k3)]
    exact l_ac_write h I hN ha
  rw [if_neg (by rw [ck 3 (by omega)]; exact k3)]
  by_cases k4 : k = 4
  · rw [if_pos (by rw [ck 4 (by omega)]; exact k4)]
    exact l_ac_write h I hN ha
  rw [if_neg (by rw [ck 4 (by omega)]; exact k4)]
  by_cases k5 : k = 5
  · rw [if_pos (by rw [ck 5 (by omega)]; exact k5)]
    exact l_ac_ask h I hN hp
  rw [if_neg (by rw [ck 5 (by omega)]; exact k5)]
  have rd : ∃ (w' : Wd) (S' : ST), m_L_acts_j433 N z (nI p) (nI a) w = some (nI 1, w') ∧ FL S' S'.1 w' ∧ LI S'.1 := by
    obtain ⟨v, hv, e1⟩ := l_lowE (z >>> (nI 11 &&& 31)) (n := 12) (by omega) (by omega)
    obtain ⟨w', S', q1, q2, q3⟩ := l_isRead h I hN hp ha (show 1 ≤ 1 + v by omega) (show 1 + v ≤ 12 by omega)
    refine ⟨w', S', ?_, q2, q3⟩
    rw [m_L_acts_j433, e1, b_b, nI_add, q1, b_b]
    show some (nI 1 &&& 1, w') = some (nI 1, w')
    rw [show nI 1 &&& 1 = nI 1 by decide]
  by_cases k6 : k = 6
  · rw [if_pos (by rw [ck 6 (by omega)]; exact k6)]
    exact rd
  rw [if_neg (by rw [ck 6 (by omega)]; exact k6)]
  by_cases k7 : k = 7
  · rw [if_pos (by rw [ck 7 (by omega)]; exact k7)]
    exact rd
  rw [if_neg (by rw [ck 7 (by omega)]; exact k7)]
  by_cases k8 : k = 8
  · rw [if_pos (by rw [ck 8 (by omega)]; exact k8), e15, b_b]
    by_cases q : b = 0
    · rw [if_neg (by rw [q]; decide), m_L_acts_j480, if_neg (by decide)]
      exact l_ac_lose h I hN (d := 8) (way := 0) (Or.inl ⟨rfl, rfl, rfl⟩) hp (by omega) (by omega)
    · rw [if_pos (by rw [z_eq0 (by omega)]; exact q), m_L_acts_j480, if_pos (by decide)]
      exact l_ac_lose h I hN (d := 16) (way := 1) (Or.inr ⟨rfl, rfl, rfl⟩) hp (by omega) (by omega)
  rw [if_neg (by rw [ck 8 (by omega)]; exact k8), e15, b_b]
  by_cases q : b = 0
  · rw [if_neg (by rw [q]; decide), m_L_acts_j638, if_neg (by decide)]
    exact l_ac_deliver h I hN (d := 8) (way := 0) (Or.inl ⟨rfl, rfl, rfl⟩) hp (by omega) (by omega)
  · rw [if_pos (by rw [z_eq0 (by omega)]; exact q), m_L_acts_j638, if_pos (by decide)]
    exact l_ac_deliver h I hN (d := 16) (way := 1) (Or.inr ⟨rfl, rfl, rfl⟩) hp (by omega) (by omega)
end LACTS
