/-! ===== the invariant with the two lines that have no room ===== -/
def InvQ (T : TT) : Prop := InvT T ∧ tt_li T 8 = [] ∧ tt_li T 16 = []
theorem InvQ.of {T T' : TT} (h : InvQ T) (I : InvT T') (f : Fx T T') : InvQ T' := ⟨I, f.2.2.2.2.2.2.2.1.trans h.2.1, f.2.2.2.2.2.2.2.2.trans h.2.2⟩
theorem InvQ.li {T T' : TT} (h : InvQ T) (I : InvT T') (f : tt_li T' = tt_li T) : InvQ T' := ⟨I, by rw [f]; exact h.2.1, by rw [f]; exact h.2.2⟩
theorem iq_addProxy {T : TT} (h : InvQ T) (p : Nat) : InvQ (sp_addProxy T p).2 := h.li (sp_addProxy_inv h.1 p) (by unfold sp_addProxy; split <;> (try split) <;> rfl)
theorem iq_setHome {T : TT} (h : InvQ T) (o p : Nat) : InvQ (sp_setHome T o p).2 := h.li (sp_setHome_inv h.1 o p) (by unfold sp_setHome; split <;> (try split) <;> rfl)
theorem iq_setLimits {T : TT} (h : InvQ T) (r m : Nat) : InvQ (sp_setLimits T r m).2 := h.li (sp_setLimits_inv h.1 r m) (by unfold sp_setLimits; split <;> rfl)
theorem iq_lose {T : TT} (h : InvQ T) (c d n : Nat) : InvQ (sp_lose T c d n).2 := by
  refine ⟨sp_lose_inv h.1 c d n, ?_⟩
  unfold sp_lose
  by_cases a : ((1 ≤ c ∧ c < tt_nu T 0) ∧ d < 2) ∧ 1 ≤ n ∧ n ≤ 9
  · rw [if_pos a]
    by_cases g : (tt_li T (qi c d)).length = 0
    · rw [if_pos g]; exact h.2
    · rw [if_neg g]
      have hnp := h.1.1
      have e1 : qi c d ≠ 8 ∧ qi c d ≠ 16 := by unfold qi; split <;> omega
      constructor
      · show va_up (tt_li T) (qi c d) _ 8 = []
        rw [up_n (Ne.symm e1.1)]; exact h.2.1
      · show va_up (tt_li T) (qi c d) _ 16 = []
        rw [up_n (Ne.symm e1.2)]; exact h.2.2
  · rw [if_neg a]; exact h.2
theorem iq_deliver {T : TT} (h : InvQ T) (c d n : Nat) : InvQ (sp_deliver T c d n).2 := by
  have hnp := h.1.1
  unfold sp_deliver
  by_cases a : ((1 ≤ c ∧ c < tt_nu T 0) ∧ d < 2) ∧ 1 ≤ n ∧ n ≤ 9
  · rw [if_pos a]
    by_cases g : (tt_li T (qi c d)).length = 0
    · rw [if_pos g]; exact h
    · rw [if_neg g]
      have := h.1.2.2.2.1.2 c (by omega) (by omega)
      obtain ⟨q1, q2, -⟩ := dlv_ok (if d = 0 then tt_pa T c else c) (if d = 0 then c else tt_pa T c) (qi c d) (by split <;> omega) (by unfold qi; split <;> omega) (by unfold qi; split <;> omega) (by unfold qi; split <;> omega) (by unfold qi; split <;> omega) n T h.1
      exact h.of q1 q2
  · rw [if_neg a]; exact h
theorem iq_write {T : TT} (h : InvQ T) (o : Nat) : InvQ (sp_write T o).2 := by
  refine ⟨sp_write_inv h.1 o, ?_⟩
  unfold sp_write
  by_cases ho : o < 4
  · rw [if_pos ho]
    by_cases hw : tt_wr T o < 24
    · rw [if_pos hw]
      have := h.1.2.2.2.2.1 o ho
      have := h.1.1
      have f := arrive_fx (wrT T o) (p := tt_ho T o) (by omega) 8 (100 * o + (tt_wr T o + 1))
      exact ⟨f.2.2.2.2.2.2.2.1.trans h.2.1, f.2.2.2.2.2.2.2.2.trans h.2.2⟩
    · rw [if_neg hw]; exact h.2
  · rw [if_neg ho]; exact h.2
theorem iq_read {T : TT} (h : InvQ T) (p o v : Nat) : InvQ (sp_read T p o v).2 := by
  refine ⟨sp_read_inv h.1 p o v, ?_⟩
  unfold sp_read
  by_cases c : p < tt_nu T 0 ∧ wasW T o v
  · rw [if_pos c]
    by_cases d : v ≤ pfx T p o
    · rw [if_pos d]
      by_cases e : hopF T (100 * o + v) 8 p 0 = 99
      · rw [if_pos e]; exact h.2
      · rw [if_neg e]
        by_cases g : 0 < hopF T (100 * o + v) 8 p 0
        · have := h.1.1
          have f := keep_fx T (p := p) (by omega) (100 * o + v)
          show tt_li (if _ then _ else _) 8 = [] ∧ tt_li (if _ then _ else _) 16 = []
          rw [if_pos g]
          exact ⟨f.2.2.2.2.2.2.2.1.trans h.2.1, f.2.2.2.2.2.2.2.2.trans h.2.2⟩
        · show tt_li (if _ then _ else _) 8 = [] ∧ tt_li (if _ then _ else _) 16 = []
          rw [if_neg g]; exact h.2
    · rw [if_neg d]; exact h.2
  · rw [if_neg c]; exact h.2
theorem iq_ask {T : TT} (h : InvQ T) (p : Nat) : InvQ (sp_ask T p).2 := by
  unfold sp_ask
  split
  · rename_i c
    have := h.1.1
    obtain ⟨q1, q2, -⟩ := askL_ok (p := p) p 1 (0, 0, 0, T) (by omega) h.1
    exact h.of q1 q2
  · exact h
theorem iq_room {T : TT} (h : InvQ T) : ∀ i, i < 24 → (tt_li T i).length ≤ lroom (2 * i) := by
  intro i hi
  by_cases c : i < 8
  · exact lr_c h.1 c
  · by_cases d : i = 8
    · subst d; rw [h.2.1]; exact Nat.zero_le _
    · by_cases e : i = 16
      · subst e; rw [h.2.2]; exact Nat.zero_le _
      · rw [lrq i hi (by omega) d e]; exact it_q12 h.1 i (by omega) hi
/-! ===== copying a state ===== -/
theorem cp_in {w : Wd} {a b n j : Nat} (h : j < n) : wcpy w a b (nI 0).toNatClampNeg (nI 0).toNatClampNeg n b j = w a j := by
  show va_up w b (va_cpy (w a) (w b) 0 0 n) b j = _
  rw [up_s]
  show (if 0 ≤ j ∧ j < 0 + n then w a (0 + (j - 0)) else _) = _
  rw [if_pos ⟨Nat.zero_le _, by omega⟩, Nat.zero_add, Nat.sub_zero]
theorem cp_ne {w : Wd} {a b n k : Nat} {s d : Nat} (h : k ≠ b) : wcpy w a b s d n k = w k := up_n h
theorem cp_ok {n m : Nat} (h : n ≤ m) (hb : m < 2 ^ 31) : cpok (nI 0) (nI 0) (nI n) m m := by
  refine ⟨nI_pos (by omega), nI_pos (by omega), nI_pos (by omega), ?_, ?_⟩ <;> rw [nI_clamp (by omega), nI_clamp (by omega)] <;> omega
theorem lroom_z {z m : Nat} (hz : z < 8) (hm : m < 50) : lroom (59 * z + m) = lroom m := by
  unfold lroom
  rw [if_pos (show 59 * z + m < 472 by omega), md59 z (by omega), if_pos (show m < 472 by omega), Nat.mod_eq_of_lt (show m < 59 by omega)]
theorem e_copyLine {q0 q1 : Nat} {w : Wd} {l : List Nat} (h : RLn (w q1 1) (w (q1 + 1)) l) (hR : l.length ≤ lroom q1) (e : lroom q0 = lroom q1) (hb : lroom q1 < 1000) (n1 : q1 ≠ q0) (n2 : q1 ≠ q0 + 1) (n3 : q1 + 1 ≠ q0) : ∃ w', m_X2_copyFrom q0 q1 w = some w' ∧ RLn (w' q0 1) (w' (q0 + 1)) l ∧ ∀ k, k ≠ q0 → k ≠ q0 + 1 → w' k = w k := by
  have e1 : (if (nI (lroom q0)) < (nI (lroom q1)) then (nI (lroom q0)) else (nI (lroom q1))) = nI (lroom q1) := by
    rw [e]; split <;> rfl
  refine ⟨wset (wcpy w (q1 + 1) (q0 + 1) (nI 0).toNatClampNeg (nI 0).toNatClampNeg (lroom q1)) q0 1 (nI l.length), ?_, ?_, fun k h1 h2 => by rw [wset_ne h1, cp_ne h2]⟩
  · rw [m_X2_copyFrom, e1, if_pos (by rw [e]; exact cp_ok (Nat.le_refl _) (by omega)), lt_eq, nI_clamp (show lroom q1 < 2 ^ 31 by omega), cp_ne (show q1 ≠ q0 + 1 from n2), h.1, e, if_neg (by rw [z_lt (by omega) (by omega)]; omega), lt_eq]
  · refine ⟨by rw [wset_same, upd_s], fun k x hx => ?_⟩
    have hk : k < l.length := by
      rcases Nat.lt_or_ge k l.length with z | z
      · exact z
      · rw [List.getElem?_eq_none z] at hx; cases hx
    rw [wset_ne (by omega), cp_in (by omega)]
    exact h.2 k x hx
theorem e_copy_L {z0 z1 : Nat} (h0 : z0 < 8) (h1 : z1 < 8) (ne : z0 ≠ z1) (li : Nat → List Nat) (hR : ∀ i, i < 24 → (li i).length ≤ lroom (2 * i)) : ∀ (d n p : Nat) (w : Wd), p + d = 8 → d < n → (∀ i, i < 24 → RLn (w (59 * z1 + 2 * i) 1) (w (59 * z1 + 2 * i + 1)) (li i)) → (∀ i, i < p → RLn (w (59 * z0 + 2 * i) 1) (w (59 * z0 + 2 * i + 1)) (li i) ∧ RLn (w (59 * z0 + 16 + 2 * i) 1) (w (59 * z0 + 16 + 2 * i + 1)) (li (8 + i)) ∧ RLn (w (59 * z0 + 32 + 2 * i) 1) (w (59 * z0 + 32 + 2 * i + 1)) (li (16 + i))) → ∃ w', m_X5_copyFrom_L132 z0 z1 n (nI p) w = some w' ∧ (∀ i, i < 8 → RLn (w' (59 * z0 + 2 * i) 1) (w' (59 * z0 + 2 * i + 1)) (li i) ∧ RLn (w' (59 * z0 + 16 + 2 * i) 1) (w' (59 * z0 + 16 + 2 * i + 1)) (li (8 + i)) ∧ RLn (w' (59 * z0 + 32 + 2 * i) 1) (w' (59 * z0 + 32 + 2 * i + 1)) (li (16 + i))) ∧ ∀ k, (k < 59 * z0 ∨ 59 * z0 + 48 ≤ k) → w' k = w k := by
  intro d
  induction d with
  | zero =>
    intro n p w hp hn hs hc
    obtain ⟨n, rfl⟩ : ∃ m, n = m + 1 := ⟨n - 1, by omega⟩
    have e : p = 8 := by omega
    subst e
    exact ⟨w, by rw [m_X5_copyFrom_L132, if_pos (by decide)], hc, fun _ _ => rfl⟩
  | succ d ih =>
    intro n p w hp hn hs hc
    obtain ⟨n, rfl⟩ : ∃ m, n = m + 1 := ⟨n - 1, by omega⟩
    have line : ∀ (u : Wd) (i : Nat), i < 24 → RLn (u (59 * z1 + 2 * i) 1) (u (59 * z1 + 2 * i + 1)) (li i) → ∃ u', m_X2_copyFrom (59 * z0 + 2 * i) (59 * z1 + 2 * i) u = some u' ∧ RLn (u' (59 * z0 + 2 * i) 1) (u' (59 * z0 + 2 * i + 1)) (li i) ∧ ∀ k, k ≠ 59 * z0 + 2 * i → k ≠ 59 * z0 + 2 * i + 1 → u' k = u k := by
      intro u i hi hu
      have e0 := lroom_z h0 (show 2 * i < 50 by omega)
      have e1 := lroom_z h1 (show 2 * i < 50 by omega)
      exact e_copyLine hu (by rw [e1]; exact hR i hi) (by rw [e0, e1]) (by rw [e1]; exact lrb i hi) (by omega) (by omega) (by omega)
    obtain ⟨w1, a1, a2, a3⟩ := line w p (by omega) (hs p (by omega))
    obtain ⟨w2, b1, b2, b3⟩ := line w1 (8 + p) (by omega) (by rw [a3 _ (by omega) (by omega), a3 _ (by omega) (by omega)]; exact hs (8 + p) (by omega))
    obtain ⟨w3, c1, c2, c3⟩ := line w2 (16 + p) (by omega) (by rw [b3 _ (by omega) (by omega), b3 _ (by omega) (by omega), a3 _ (by omega) (by omega), a3 _ (by omega) (by omega)]; exact hs (16 + p) (by omega))
    rw [show 59 * z0 + 2 * (8 + p) = 59 * z0 + 16 + 2 * p by omega] at b1 b2 b3
    rw [show 59 * z1 + 2 * (8 + p) = 59 * z1 + 16 + 2 * p by omega] at b1
    rw [show 59 * z0 + 2 * (16 + p) = 59 * z0 + 32 + 2 * p by omega] at c1 c2 c3
    rw [show 59 * z1 + 2 * (16 + p) = 59 * z1 + 32 + 2 * p by omega] at c1
    have fr : ∀ k, k ≠ 59 * z0 + 2 * p → k ≠ 59 * z0 + 2 * p + 1 → k ≠ 59 * z0 + 16 + 2 * p → k ≠ 59 * z0 + 16 + 2 * p + 1 → k ≠ 59 * z0 + 32 + 2 * p → k ≠ 59 * z0 + 32 + 2 * p + 1 → w3 k = w k := fun k k1 k2 k3 k4 k5 k6 => by rw [c3 k k5 k6, b3 k k3 k4, a3 k k1 k2]
    obtain ⟨w', d1, d2, d3⟩ := ih n (p + 1) w3 (by omega) (by omega) (fun i hi => by rw [fr _ (by omega) (by omega) (by omega) (by omega) (by omega) (by omega), fr _ (by omega) (by omega) (by omega) (by omega) (by omega) (by omega)]; exact hs i hi) (fun i hi => by
      by_cases e : i = p
      · subst e
        refine ⟨?_, ?_, c2⟩
        · rw [c3 _ (by omega) (by omega), b3 _ (by omega) (by omega), c3 _ (by omega) (by omega), b3 _ (by omega) (by omega)]; exact a2
        · rw [c3 _ (by omega) (by omega), c3 _ (by omega) (by omega)]; exact b2
      · obtain ⟨g1, g2, g3⟩ := hc i (by omega)
        refine ⟨?_, ?_, ?_⟩
        · rw [fr _ (by omega) (by omega) (by omega) (by omega) (by omega) (by omega), fr _ (by omega) (by omega) (by omega) (by omega) (by omega) (by omega)]; exact g1
        · rw [fr _ (by omega) (by omega) (by omega) (by omega) (by omega) (by omega), fr _ (by omega) (by omega) (by omega) (by omega) (by omega) (by omega)]; exact g2
        · rw [fr _ (by omega) (by omega) (by omega) (by omega) (by omega) (by omega), fr _ (by omega) (by omega) (by omega) (by omega) (by omega) (by omega)]; exact g3)
    refine ⟨w', ?_, d2, fun k hk => by rw [d3 k hk, fr k (by omega) (by omega) (by omega) (by omega) (by omega) (by omega)]⟩
    have hib : ib (nI p) 8 := by rw [z_ib (by omega)]; omega
    have hcl : (nI p).toNatClampNeg = p := nI_clamp (by omega)
    have a1' : m_X2_copyFrom (59 * z0 + 2 * (nI p).toNatClampNeg) (59 * z1 + 2 * (nI p).toNatClampNeg) w = some w1 := by rw [hcl]; exact a1
    have b1' : m_X2_copyFrom (59 * z0 + 16 + 2 * (nI p).toNatClampNeg) (59 * z1 + 16 + 2 * (nI p).toNatClampNeg) w1 = some w2 := by rw [hcl]; exact b1
    have c1' : m_X2_copyFrom (59 * z0 + 32 + 2 * (nI p).toNatClampNeg) (59 * z1 + 32 + 2 * (nI p).toNatClampNeg) w2 = some w3 := by rw [hcl]; exact c1
    rw [m_X5_copyFrom_L132, if_neg (by rw [z_le (by omega) (by omega)]; omega), if_pos hib, if_pos hib, a1', b_b, if_pos hib, if_pos hib, b1', b_b, if_pos hib, if_pos hib, c1', b_b, nI_add]
    exact d1
theorem e_copyState {T : TT} {w : Wd} {z0 z1 : Nat} (h0 : z0 < 8) (h1 : z1 < 8) (ne : z0 ≠ z1) (h : RepC z1 T w) (hR : ∀ i, i < 24 → (tt_li T i).length ≤ lroom (2 * i)) : ∃ w', m_X5_copyFrom z0 z1 w = some w' ∧ RepC z0 T w' ∧ ∀ k, (k < 59 * z0 ∨ 59 * z0 + 59 ≤ k) → w' k = w k := by
  obtain ⟨r1, r2, r3, r4, r5, r6, r7⟩ := h
  have seven : ∃ w7, (∀ j, j < 7 → w7 (59 * z0 + 50) j = w (59 * z1 + 50) j) ∧ (∀ k, k ≠ 59 * z0 + 50 → w7 k = w k) ∧ ∀ kx : Wd → Option Wd, (lt (wset w (59 * z0 + 50) 0 (w (59 * z1 + 50) 0)) fun w1 =>
  lt (wset w1 (59 * z0 + 50) 1 (w1 (59 * z1 + 50) 1)) fun w2 =>
  lt (wset w2 (59 * z0 + 50) 2 (w2 (59 * z1 + 50) 2)) fun w3 =>
  lt (wset w3 (59 * z0 + 50) 3 (w3 (59 * z1 + 50) 3)) fun w4 =>
  lt (wset w4 (59 * z0 + 50) 4 (w4 (59 * z1 + 50) 4)) fun w5 =>
  lt (wset w5 (59 * z0 + 50) 5 (w5 (59 * z1 + 50) 5)) fun w6 =>
  lt (wset w6 (59 * z0 + 50) 6 (w6 (59 * z1 + 50) 6)) kx) = kx w7 := by
    have st : ∀ (u : Wd) (j : Nat) (m : Nat), (∀ i, i < m → u (59 * z0 + 50) i = w (59 * z1 + 50) i) → (∀ k, k ≠ 59 * z0 + 50 → u k = w k) → (∀ i, i < m + 1 → wset u (59 * z0 + 50) m (u (59 * z1 + 50) m) (59 * z0 + 50) i = w (59 * z1 + 50) i) ∧ (∀ k, k ≠ 59 * z0 + 50 → wset u (59 * z0 + 50) m (u (59 * z1 + 50) m) k = w k) := by
      intro u j m a b
      refine ⟨fun i hi => ?_, fun k hk => by rw [wset_ne hk]; exact b k hk⟩
      rw [wset_same]
      by_cases c : i = m
      · subst c; rw [upd_s, b _ (by omega)]
      · rw [upd_n c]; exact a i (by omega)
    have s1 := st w 0 0 (fun i hi => by omega) (fun _ _ => rfl)
    have s2 := st _ 0 1 s1.1 s1.2
    have s3 := st _ 0 2 s2.1 s2.2
    have s4 := st _ 0 3 s3.1 s3.2
    have s5 := st _ 0 4 s4.1 s4.2
    have s6 := st _ 0 5 s5.1 s5.2
    have s7 := st _ 0 6 s6.1 s6.2
    exact ⟨_, s7.1, s7.2, fun kx => by simp only [lt_eq]⟩
  obtain ⟨w7, a1, a2, a3⟩ := seven
  rw [m_X5_copyFrom, a3]
  have cl : ∀ n, n < 2 ^ 31 → (nI n).toNatClampNeg = n := fun n hn => nI_clamp hn
  rw [if_pos (cp_ok (n := 8) (m := 8) (Nat.le_refl _) (by omega)), lt_eq, if_pos (cp_ok (n := 4) (m := 4) (Nat.le_refl _) (by omega)), lt_eq, if_pos (cp_ok (n := 4) (m := 4) (Nat.le_refl _) (by omega)), lt_eq, if_pos (cp_ok (n := 32) (m := 32) (Nat.le_refl _) (by omega)), lt_eq, if_pos (cp_ok (n := 384) (m := 384) (Nat.le_refl _) (by omega)), lt_eq, cl 8 (by omega), cl 4 (by omega), cl 32 (by omega), cl 384 (by omega)]
  obtain ⟨w9, e9⟩ : ∃ u, u = wcpy w7 (59 * z1 + 51) (59 * z0 + 51) (nI 0).toNatClampNeg (nI 0).toNatClampNeg 8 := ⟨_, rfl⟩
  obtain ⟨w11, e11⟩ : ∃ u, u = wcpy w9 (59 * z1 + 52) (59 * z0 + 52) (nI 0).toNatClampNeg (nI 0).toNatClampNeg 4 := ⟨_, rfl⟩
  obtain ⟨w13, e13⟩ : ∃ u, u = wcpy w11 (59 * z1 + 53) (59 * z0 + 53) (nI 0).toNatClampNeg (nI 0).toNatClampNeg 4 := ⟨_, rfl⟩
  obtain ⟨w15, e15⟩ : ∃ u, u = wcpy w13 (59 * z1 + 54) (59 * z0 + 54) (nI 0).toNatClampNeg (nI 0).toNatClampNeg 32 := ⟨_, rfl⟩
  obtain ⟨w17, e17⟩ : ∃ u, u = wcpy w15 (59 * z1 + 55) (59 * z0 + 55) (nI 0).toNatClampNeg (nI 0).toNatClampNeg 384 := ⟨_, rfl⟩
  rw [← e9, ← e11, ← e13, ← e15, ← e17]
  have f9 : ∀ k, k ≠ 59 * z0 + 51 → w9 k = w7 k := fun k hk => by rw [e9, cp_ne hk]
  have f11 : ∀ k, k ≠ 59 * z0 + 52 → w11 k = w9 k := fun k hk => by rw [e11, cp_ne hk]
  have f13 : ∀ k, k ≠ 59 * z0 + 53 → w13 k = w11 k := fun k hk => by rw [e13, cp_ne hk]
  have f15 : ∀ k, k ≠ 59 * z0 + 54 → w15 k = w13 k := fun k hk => by rw [e15, cp_ne hk]
  have f17 : ∀ k, k ≠ 59 * z0 + 55 → w17 k = w15 k := fun k hk => by rw [e17, cp_ne hk]
  have fa : ∀ k, (k < 59 * z0 + 50 ∨ 59 * z0 + 56 ≤ k) → w17 k = w k := fun k hk => by rw [f17 k (by omega), f15 k (by omega), f13 k (by omega), f11 k (by omega), f9 k (by omega), a2 k (by omega)]
  have hF := FUb
  obtain ⟨w', b1, b2, b3⟩ := e_copy_L h0 h1 ne (tt_li T) hR 8 FU 0 w17 (by omega) (by omega) (fun i hi => by rw [fa _ (by omega), fa _ (by omega)]; exact r7 i hi) (fun i hi => by omega)
  refine ⟨w', b1, ⟨fun j hj => ?_, fun j hj => ?_, fun j hj => ?_, fun j hj => ?_, fun j hj => ?_, fun j hj => ?_, fun i hi => ?_⟩, fun k hk => by rw [b3 k (by omega), fa k (by omega)]⟩
  · rw [b3 _ (by omega), f17 _ (by omega), f15 _ (by omega), f13 _ (by omega), f11 _ (by omega), f9 _ (by omega), a1 j hj]; exact r1 j hj
  · rw [b3 _ (by omega), f17 _ (by omega), f15 _ (by omega), f13 _ (by omega), f11 _ (by omega), e9, cp_in hj, a2 _ (by omega)]; exact r2 j hj
  · rw [b3 _ (by omega), f17 _ (by omega), f15 _ (by omega), f13 _ (by omega), e11, cp_in hj, f9 _ (by omega), a2 _ (by omega)]; exact r3 j hj
  · rw [b3 _ (by omega), f17 _ (by omega), f15 _ (by omega), e13, cp_in hj, f11 _ (by omega), f9 _ (by omega), a2 _ (by omega)]; exact r4 j hj
  · rw [b3 _ (by omega), f17 _ (by omega), e15, cp_in hj, f13 _ (by omega), f11 _ (by omega), f9 _ (by omega), a2 _ (by omega)]; exact r5 j hj
  · rw [b3 _ (by omega), e17, cp_in hj, f15 _ (by omega), f13 _ (by omega), f11 _ (by omega), f9 _ (by omega), a2 _ (by omega)]; exact r6 j hj
  · by_cases c : i < 8
    · exact (b2 i c).1
    · by_cases d : i < 16
      · have := (b2 (i - 8) (by omega)).2.1
        rw [show 59 * z0 + 16 + 2 * (i - 8) = 59 * z0 + 2 * i by omega, show 8 + (i - 8) = i by omega] at this
        exact this
      · have := (b2 (i - 16) (by omega)).2.2
        rw [show 59 * z0 + 32 + 2 * (i - 16) = 59 * z0 + 2 * i by omega, show 16 + (i - 16) = i by omega] at this
        exact this
/-! ===== the saved states ===== -/
/-- the slot of the saved state k of n when next is the next one -/
def slot (nx n k : Nat) : Nat := 1 + (nx + 7 - n + k) % 7
def HistC (H : List TT) (w : Wd) : Prop := ∃ nx, nx < 7 ∧ w 477 1 = nI nx ∧ w 477 2 = nI H.length ∧ H.length ≤ 6 ∧ ∀ k (hk : k < H.length), RepC (slot nx H.length k) (H[k]) w ∧ InvQ (H[k])
def push (H : List TT) (T : TT) : List TT := (if H.length = 6 then H.drop 1 else H) ++ [T]
theorem fm7 : ∀ n, n < 8 → m_J9_floorMod_7cf53 (nI n) (nI 7) = some (nI (n % 7)) := by decide
theorem fm6 : ∀ n, n < 7 → m_J9_floorMod_7cf53 (nI n - nI 1) (nI 7) = some (nI ((n + 6) % 7)) := by decide
theorem slot_lt {nx n k : Nat} : slot nx n k < 8 := by unfold slot; omega
theorem e_stage {T : TT} {w : Wd} {nx : Nat} (h : RepC 0 T w) (Q : InvQ T) (hn : nx < 7) (e1 : w 477 1 = nI nx) : ∃ w', m_X1_stage w = some w' ∧ RepC (nx + 1) T w' ∧ ∀ k, (k < 59 * (nx + 1) ∨ 59 * (nx + 1) + 59 ≤ k) → w' k = w k := by
  obtain ⟨w', a1, a2, a3⟩ := e_copyState (z0 := nx + 1) (z1 := 0) (by omega) (by omega) (by omega) h (iq_room Q)
  refine ⟨w', ?_, a2, a3⟩
  have hcl : (nI nx).toNatClampNeg = nx := nI_clamp (by omega)
  rw [m_X1_stage, e1, fm7 nx (by omega), Nat.mod_eq_of_lt hn, b_b, if_pos (by rw [z_ib (by omega)]; exact hn), show m_X5_copyFrom ((nI nx).toNatClampNeg + 1) 0 w = some w' by rw [hcl]; exact a1, b_b]
theorem e_commit {w : Wd} {nx n : Nat} (hn : nx < 7) (hs : n ≤ 6) (e1 : w 477 1 = nI nx) (e2 : w 477 2 = nI n) : ∃ w', m_X1_commit w = some w' ∧ w' 477 1 = nI ((nx + 1) % 7) ∧ w' 477 2 = nI (min (n + 1) 6) ∧ ∀ k, k ≠ 477 → w' k = w k := by
  have em : (if nI 6 < nI n + nI 1 then nI 6 else nI n + nI 1) = nI (min (n + 1) 6) := by
    rw [nI_add]
    by_cases c : 6 < n + 1
    · rw [if_pos (by rw [z_lt (by omega) (by omega)]; exact c), Nat.min_eq_right (by omega)]
    · rw [if_neg (by rw [z_lt (by omega) (by omega)]; exact c), Nat.min_eq_left (by omega)]
  refine ⟨wset (wset w 477 1 (nI ((nx + 1) % 7))) 477 2 (nI (min (n + 1) 6)), ?_, ?_, ?_, fun k hk => by rw [wset_ne hk, wset_ne hk]⟩
  · have e3 : wset w 477 1 (nI ((nx + 1) % 7)) 477 2 = nI n := by rw [wset_same, upd_n (by decide)]; exact e2
    rw [m_X1_commit, e1, nI_add, fm7 (nx + 1) (by omega), b_b, lt_eq, e3, em, lt_eq]
  · rw [wset_same, upd_n (by decide), wset_same, upd_s]
  · rw [wset_same, upd_s]
/-- the words of the machine that hold the saved states, and nothing else, stay -/
theorem hist_frame {H : List TT} {w w' : Wd} (h : HistC H w) (hf : ∀ k, 59 ≤ k → k < 472 ∨ k = 477 → w' k = w k) : HistC H w' := by
  obtain ⟨nx, h1, h2, h3, h4, h5⟩ := h
  refine ⟨nx, h1, by rw [hf 477 (by omega) (by omega)]; exact h2, by rw [hf 477 (by omega) (by omega)]; exact h3, h4, fun k hk => ⟨?_, (h5 k hk).2⟩⟩
  obtain ⟨r1, r2, r3, r4, r5, r6, r7⟩ := (h5 k hk).1
  have hs : 1 ≤ slot nx H.length k ∧ slot nx H.length k < 8 := by unfold slot; omega
  generalize slot nx H.length k = z at *
  refine ⟨fun j hj => ?_, fun j hj => ?_, fun j hj => ?_, fun j hj => ?_, fun j hj => ?_, fun j hj => ?_, fun i hi => ?_⟩
  · rw [hf _ (by omega) (by omega)]; exact r1 j hj
  · rw [hf _ (by omega) (by omega)]; exact r2 j hj
  · rw [hf _ (by omega) (by omega)]; exact r3 j hj
  · rw [hf _ (by omega) (by omega)]; exact r4 j hj
  · rw [hf _ (by omega) (by omega)]; exact r5 j hj
  · rw [hf _ (by omega) (by omega)]; exact r6 j hj
  · rw [hf _ (by omega) (by omega), hf _ (by omega) (by omega)]; exact r7 i hi
theorem rc_z {z : Nat} {T : TT} {w w' : Wd} (h : RepC z T w) (hf : ∀ k, 59 * z ≤ k → k < 59 * z + 59 → w' k = w k) : RepC z T w' := by
  obtain ⟨r1, r2, r3, r4, r5, r6, r7⟩ := h
  refine ⟨fun j hj => ?_, fun j hj => ?_, fun j hj => ?_, fun j hj => ?_, fun j hj => ?_, fun j hj => ?_, fun i hi => ?_⟩
  · rw [hf _ (by omega) (by omega)]; exact r1 j hj
  · rw [hf _ (by omega) (by omega)]; exact r2 j hj
  · rw [hf _ (by omega) (by omega)]; exact r3 j hj
  · rw [hf _ (by omega) (by omega)]; exact r4 j hj
  · rw [hf _ (by omega) (by omega)]; exact r5 j hj
  · rw [hf _ (by omega) (by omega)]; exact r6 j hj
  · rw [hf _ (by omega) (by omega), hf _ (by omega) (by omega)]; exact r7 i hi
theorem push_len (H : List TT) (T : TT) (h : H.length ≤ 6) : (push H T).length = min (H.length + 1) 6 := by
  unfold push
  rw [List.length_append]
  split
  · rw [List.length_drop]; show _ + 1 = _; omega
  · show _ + 1 = _; omega
/-- what has been saved, and the state that waits in the next slot -/
def StagedC (H : List TT) (T : TT) (w : Wd) : Prop := ∃ nx, nx < 7 ∧ w 477 1 = nI nx ∧ w 477 2 = nI H.length ∧ H.length ≤ 6 ∧ (∀ k (hk : k < H.length), RepC (slot nx H.length k) (H[k]) w ∧ InvQ (H[k])) ∧ RepC (nx + 1) T w ∧ InvQ T
theorem staged_hist {H : List TT} {T : TT} {w : Wd} (h : StagedC H T w) : HistC H w := by
  obtain ⟨nx, h1, h2, h3, h4, h5, -⟩ := h
  exact ⟨nx, h1, h2, h3, h4, h5⟩
theorem staged_frame {H : List TT} {T : TT} {w w' : Wd} (h : StagedC H T w) (hf : ∀ k, 59 ≤ k → k < 472 ∨ k = 477 → w' k = w k) : StagedC H T w' := by
  obtain ⟨nx, h1, h2, h3, h4, h5, h6, h7⟩ := h
  refine ⟨nx, h1, by rw [hf 477 (by omega) (by omega)]; exact h2, by rw [hf 477 (by omega) (by omega)]; exact h3, h4, fun k hk => ⟨?_, (h5 k hk).2⟩, ?_, h7⟩
  · have hs : 1 ≤ slot nx H.length k ∧ slot nx H.length k < 8 := by unfold slot; omega
    exact rc_z (h5 k hk).1 (fun j j1 j2 => hf j (by omega) (by omega))
  · exact rc_z h6 (fun j j1 j2 => hf j (by omega) (by omega))
theorem e_stageH {H : List TT} {T : TT} {w : Wd} (h : RepC 0 T w) (Q : InvQ T) (g : HistC H w) : ∃ w', m_X1_stage w = some w' ∧ RepC 0 T w' ∧ StagedC H T w' ∧ ∀ k, 472 ≤ k → w' k = w k := by
  obtain ⟨nx, h1, h2, h3, h4, h5⟩ := g
  obtain ⟨w', a1, a2, a3⟩ := e_stage h Q h1 h2
  refine ⟨w', a1, rc_z h (fun k k1 k2 => a3 k (by omega)), ⟨nx, h1, by rw [a3 477 (by omega)]; exact h2, by rw [a3 477 (by omega)]; exact h3, h4, fun k hk => ⟨rc_z (h5 k hk).1 (fun j j1 j2 => a3 j ?_), (h5 k hk).2⟩, a2, Q⟩, fun k hk => a3 k (by omega)⟩
  have hs : slot nx H.length k ≠ nx + 1 := by unfold slot; omega
  omega
theorem e_commitH {H : List TT} {T : TT} {w : Wd} (g : StagedC H T w) : ∃ w', m_X1_commit w = some w' ∧ HistC (push H T) w' ∧ ∀ k, k ≠ 477 → w' k = w k := by
  obtain ⟨nx, h1, h2, h3, h4, h5, h6, h7⟩ := g
  obtain ⟨w', a1, a2, a3, a4⟩ := e_commit h1 h4 h2 h3
  have hl := push_len H T h4
  refine ⟨w', a1, ⟨(nx + 1) % 7, by omega, a2, by rw [hl]; exact a3, by omega, fun k hk => ?_⟩, a4⟩
  have fr : ∀ {z : Nat} {T : TT}, z < 8 → RepC z T w → RepC z T w' := fun hz r => rc_z r (fun j j1 j2 => a4 j (by omega))
  rw [hl] at hk ⊢
  by_cases c : H.length = 6
  · have ep : push H T = H.drop 1 ++ [T] := by unfold push; rw [if_pos c]
    have hd : (H.drop 1).length = 5 := by rw [List.length_drop]; omega
    by_cases d : k < 5
    · have eg : (push H T)[k]'(by rw [hl]; exact hk) = H[k + 1]'(by omega) := by
        simp only [ep]
        rw [List.getElem_append_left (by omega), List.getElem_drop]
        congr 1
        omega
      rw [eg]
      have := h5 (k + 1) (by omega)
      rw [show slot ((nx + 1) % 7) (min (H.length + 1) 6) k = slot nx H.length (k + 1) by unfold slot; rw [c]; omega]
      exact ⟨fr slot_lt this.1, this.2⟩
    · have e5 : k = 5 := by omega
      subst e5
      have eg : (push H T)[5]'(by rw [hl]; exact hk) = T := by
        simp only [ep]
        rw [List.getElem_append_right (by omega)]
        simp
      rw [eg, show slot ((nx + 1) % 7) (min (H.length + 1) 6) 5 = nx + 1 by unfold slot; rw [c]; omega]
      exact ⟨fr (by omega) h6, h7⟩
  · have ep : push H T = H ++ [T] := by unfold push; rw [if_neg c]
    rw [Nat.min_eq_left (by omega)] at hk ⊢
    by_cases d : k < H.length
    · have eg : (push H T)[k]'(by rw [hl]; omega) = H[k] := by
        simp only [ep]
        rw [List.getElem_append_left d]
      rw [eg, show slot ((nx + 1) % 7) (H.length + 1) k = slot nx H.length k by unfold slot; omega]
      exact ⟨fr slot_lt (h5 k d).1, (h5 k d).2⟩
    · have e5 : k = H.length := by omega
      subst e5
      have eg : (push H T)[H.length]'(by rw [hl]; omega) = T := by
        simp only [ep]
        rw [List.getElem_append_right (by omega)]
        simp
      rw [eg, show slot ((nx + 1) % 7) (H.length + 1) H.length = nx + 1 by unfold slot; omega]
      exact ⟨fr (by omega) h6, h7⟩