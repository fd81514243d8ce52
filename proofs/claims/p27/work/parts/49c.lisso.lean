/-! ===== the law's comparison of all that the class tells ===== -/
/-- the class's world, the law's rows, and what p serves in the row N -/
def SO (S : ST) (N p : Nat) (w : Wd) : Prop := FC S w ∧ RepL S.1 w ∧ RepO N w (pfx S.1 p)
theorem so_wj {S : ST} {N p : Nat} {w w1 : Wd} (hN : 490 ≤ N) (h : SO S N p w) (h1 : FC S w1) : SO S N p (wj w1 w) := ⟨fc_wj h1, rl_wj h.2.1, fun o ho => by rw [wj_hi hN]; exact h.2.2 o ho⟩
section LSO
variable {S : ST} {w : Wd}
theorem so_kct {T : TT} (Sm : Sml T) {p o : Nat} (hp : p < 8) (ho : o < 4) : fb_ct (fun i => tt_kn T (4 * p + o) (i + 1)) (tt_wr T o) = kc (tt_kn T (4 * p + o)) := by
  have hw := Sm.1 o ho
  unfold kc
  have h := fb_ct_split (fun i => tt_kn T (4 * p + o) (i + 1)) (tt_wr T o) (24 - tt_wr T o)
  have z : fb_ct (fun k => (fun i => tt_kn T (4 * p + o) (i + 1)) (tt_wr T o + k)) (24 - tt_wr T o) = 0 := fb_ct_zero.mpr (fun k hk => by
    show tt_kn T (4 * p + o) (tt_wr T o + k + 1) = false
    cases c : tt_kn T (4 * p + o) (tt_wr T o + k + 1) with
    | false => rfl
    | true =>
      have := (Sm.2.1 p o _ hp ho c).2
      omega)
  rw [z, show tt_wr T o + (24 - tt_wr T o) = 24 by omega] at h
  exact h.symm
theorem l_so_L207 (I : LI S.1) {p a N N' : Nat} (hN : 497 ≤ N) (hp : p < tt_nu S.1 0) (ha : a < 4) (x8 x11 x13 : Int32) (c0 : Nat) (kx : Int32 → Int32 → Wd → Option (Int32 × Wd)) : ∀ (d n v : Nat) (w : Wd), v + d = tt_wr S.1 a → d < n → SO S N p w → ∃ w', m_L_isSo_L207 N' N x8 x11 (nI p) x13 (nI a) kx n (nI 1) (nI (c0 + fb_ct (fun i => tt_kn S.1 (4 * p + a) (i + 1)) v)) (nI (v + 1)) w = kx (nI 1) (nI (c0 + fb_ct (fun i => tt_kn S.1 (4 * p + a) (i + 1)) (tt_wr S.1 a))) w' ∧ SO S N p w' := by
  have K := I.K
  have h5 := I.2.1
  have hwr := I.2.2 a ha
  have Sm := inv_sml K I.2.2
  have hpf := sml_12 Sm (p := p) (o := a) (by omega) ha
  intro d
  induction d with
  | zero =>
    intro n v w hv hn h
    obtain ⟨n, rfl⟩ : ∃ m, n = m + 1 := ⟨n - 1, by omega⟩
    have e : v = tt_wr S.1 a := by omega
    refine ⟨w, ?_, h⟩
    rw [m_L_isSo_L207, nI_add, if_pos (by rw [z_ib (by omega)]; omega), nI_clamp (by omega), rl_wr h.2.1 ha, if_pos (by rw [z_lt (by omega) (by omega)]; omega), e]
  | succ d ih =>
    intro n v w hv hn h
    obtain ⟨n, rfl⟩ : ∃ m, n = m + 1 := ⟨n - 1, by omega⟩
    have hk1 : w 491 (nI (4 * p + a)).toNatClampNeg = nI (2 * bits (tt_kn S.1 (4 * p + a)) 12) := by rw [nI_clamp (by omega)]; exact rl_kn h.2.1 (by omega)
    obtain ⟨w1, s1, s2⟩ := f_status h.1 (nI p) (nI a) (nI (v + 1))
    rw [dn_nI (by omega), dn_nI (by omega), dn_nI (by omega)] at s1
    have hso := so_wj (by omega) h s2
    have hout : wj w1 w N (nI a).toNatClampNeg = nI (pfx S.1 p a) := by rw [nI_clamp (by omega)]; exact hso.2.2 a ha
    have hst : sq_status S.1 p a (v + 1) = if tt_kn S.1 (4 * p + a) (v + 1) then (if v + 1 ≤ pfx S.1 p a then (if 100 * a + (v + 1) ∈ tt_li S.1 p then nI 3 else nI 2) else nI 1) else nI 0 := by
      unfold sq_status
      rw [if_pos ⟨hp, ha, by omega, by omega⟩]
    obtain ⟨w', b1, b2⟩ := ih n (v + 1) (wj w1 w) (by omega) (by omega) hso
    rw [m_L_isSo_L207, nI_add, if_pos (by rw [z_ib (by omega)]; omega), nI_clamp (by omega), rl_wr h.2.1 ha, if_neg (by rw [z_lt (by omega) (by omega)]; omega), if_neg (by decide), pk_mul, nI_add, if_pos (by rw [z_ib (by omega)]; omega), hk1]
    rw [fb_ct_succ] at b1
    by_cases c : tt_kn S.1 (4 * p + a) (v + 1) = true
    · rw [if_pos c] at hst
      rw [if_pos c] at b1
      rw [if_neg (by rw [z_kb _ (by omega) (by omega)]; exact fun q => q c), m_L_isSo_j247, if_neg (by decide), m_L_isSo_j261, lt_eq, nI_add, s1, b_b, lt_eq, if_pos (by decide), if_pos (by rw [z_ib (by omega)]; exact ha), hout]
      refine ⟨w', ?_, b2⟩
      rw [Nat.add_assoc]
      by_cases d1 : v + 1 ≤ pfx S.1 p a
      · rw [if_pos d1] at hst
        rw [if_pos (by rw [z_le (by omega) (by omega)]; exact d1), hst]
        by_cases d2 : 100 * a + (v + 1) ∈ tt_li S.1 p
        · rw [if_pos d2, if_neg (by exact (by decide : ¬ nI 3 = nI 2)), if_neg (by exact fun q => q rfl), m_L_isSo_j330, m_L_isSo_j335, nI_add]
          exact b1
        · rw [if_neg d2, if_pos rfl, m_L_isSo_j330, m_L_isSo_j335, nI_add]
          exact b1
      · rw [if_neg d1] at hst
        rw [if_neg (by rw [z_le (by omega) (by omega)]; exact d1), hst, if_neg (by exact fun q => q rfl), m_L_isSo_j335, nI_add]
        exact b1
    · rw [if_neg c] at hst
      rw [if_neg c] at b1
      rw [if_pos (by rw [z_kb _ (by omega) (by omega)]; exact c), m_L_isSo_j247, if_pos (by decide), m_L_isSo_j261, lt_eq, nI_add, s1, b_b, lt_eq, if_neg (by decide), hst, if_neg (by exact (by decide : ¬¬ nI 0 = 0)), m_L_isSo_j335, nI_add, Nat.add_assoc]
      exact ⟨w', b1, b2⟩
theorem l_so_L160 (I : LI S.1) {p N N' : Nat} (hN : 497 ≤ N) (hp : p < tt_nu S.1 0) (x8 x11 : Int32) (kx : Int32 → Int32 → Int32 → Wd → Option (Int32 × Wd)) : ∀ (d n a : Nat) (w : Wd), a + d = 4 → d < n → SO S N p w → ∃ w', m_L_isSo_L160 N' N x8 x11 (nI p) kx n (nI 1) (nI (fb_sm (pfx S.1 p) a)) (nI (fb_sm (fun o => kc (tt_kn S.1 (4 * p + o))) a)) (nI a) w = kx (nI 1) (nI (fb_sm (pfx S.1 p) 4)) (nI (fb_sm (fun o => kc (tt_kn S.1 (4 * p + o))) 4)) w' ∧ SO S N p w' := by
  have h5 := I.2.1
  have hF := FUb
  have Sm := inv_sml I.K I.2.2
  intro d
  induction d with
  | zero =>
    intro n a w ha hn h
    obtain ⟨n, rfl⟩ : ∃ m, n = m + 1 := ⟨n - 1, by omega⟩
    have e : a = 4 := by omega
    subst e
    exact ⟨w, by rw [m_L_isSo_L160, if_pos (by decide)], h⟩
  | succ d ih =>
    intro n a w ha hn h
    obtain ⟨n, rfl⟩ : ∃ m, n = m + 1 := ⟨n - 1, by omega⟩
    have ha4 : a < 4 := by omega
    obtain ⟨w1, s1, s2⟩ := f_served h.1 (nI p) (nI a)
    rw [dn_nI (by omega), dn_nI (by omega)] at s1
    have hsv : sq_served S.1 p a = nI (pfx S.1 p a) := by unfold sq_served; rw [if_pos ⟨hp, ha4⟩]
    rw [hsv] at s1
    have hso := so_wj (by omega) h s2
    have hout : wj w1 w N (nI a).toNatClampNeg = nI (pfx S.1 p a) := by rw [nI_clamp (by omega)]; exact hso.2.2 a ha4
    have hwr := I.2.2 a ha4
    obtain ⟨w2, c1, c2⟩ := l_so_L207 I (N := N) (N' := N') hN hp ha4 x8 x11 (nI (fb_sm (pfx S.1 p) (a + 1))) (fb_sm (fun o => kc (tt_kn S.1 (4 * p + o))) a) (fun x9_3 x14_4 w5 => m_L_isSo_j343 N' N x8 x9_3 x11 (nI p) (nI (fb_sm (pfx S.1 p) (a + 1))) x14_4 (nI a) w5 (m_L_isSo_L160 N' N x8 x11 (nI p) kx n) kx) (tt_wr S.1 a) FU 0 (wj w1 w) (by omega) (by omega) hso
    rw [so_kct Sm (by omega) ha4] at c1
    obtain ⟨w', b1, b2⟩ := ih n (a + 1) w2 (by omega) (by omega) c2
    refine ⟨w', ?_, b2⟩
    rw [m_L_isSo_L160, if_neg (by rw [z_le (by omega) (by omega)]; omega), if_neg (by decide), s1, b_b, lt_eq, if_pos (by rw [z_ib (by omega)]; exact ha4), hout, if_neg (by exact fun q => q rfl), m_L_isSo_j192, if_pos (by rw [z_ib (by omega)]; exact ha4), hout, lt_eq, nI_add]
    refine Eq.trans c1 ?_
    rw [m_L_isSo_j343, nI_add]
    exact b1
theorem so_at {T : TT} {l : List Nat} {i : Nat} (hi : i < l.length) : l.getD i 0 = l[i] := by rw [List.getD_eq_getElem?_getD, List.getElem?_eq_getElem hi]; rfl
theorem l_so_L454 (I : LI S.1) {p N N' : Nat} (hN : 497 ≤ N) (hp : p < tt_nu S.1 0) (x8 x11 : Int32) (kx : Int32 → Wd → Option (Int32 × Wd)) : ∀ (d n i : Nat) (w : Wd), i + d = (tt_li S.1 p).length → d < n → SO S N p w → ∃ w', m_L_isSo_L454 N' N x8 x11 (nI p) (nI (tt_li S.1 p).length) kx n (nI 1) (nI i) w = kx (nI 1) w' ∧ SO S N p w' := by
  have K := I.K
  have h5 := I.2.1
  have h48 := li_len48 I (a := p) (by omega)
  intro d
  induction d with
  | zero =>
    intro n i w hi hn h
    obtain ⟨n, rfl⟩ : ∃ m, n = m + 1 := ⟨n - 1, by omega⟩
    exact ⟨w, by rw [m_L_isSo_L454, if_pos (by rw [z_le (by omega) (by omega)]; omega)], h⟩
  | succ d ih =>
    intro n i w hi hn h
    obtain ⟨n, rfl⟩ : ∃ m, n = m + 1 := ⟨n - 1, by omega⟩
    have hlt : i < (tt_li S.1 p).length := by omega
    have hup := K.2.2.2.2.2.2.2.2.2.1 p _ (by omega) (List.getElem_mem hlt)
    have hv := val12_lu (up_val12 hup I.2.2)
    obtain ⟨o, v, e, ho, h1, hvw⟩ := hup
    have hv12 := Nat.le_trans hvw (I.2.2 o ho)
    have hlu : lu ((tt_li S.1 p)[i]) = 16 * o + v := by rw [e]; exact lu_ov hv12
    have hkq : m_X7_kept (nI p) (nI i) w = some (nI (100 * o + v)) := by
      rw [q_kept h.1.1 K]
      unfold sq_kept
      rw [dn_nI (by omega), dn_nI (by omega), if_pos hp, if_neg (nI_pos (by omega)), if_pos hlt, so_at (T := S.1) hlt, e]
    have hd : nI (16 * o + v) / nI 16 = nI o := by rw [pk_div (by omega) (by omega) (by omega), show (16 * o + v) / 16 = o by omega]
    have hm : nI (16 * o + v) - nI o * nI 16 = nI v := by rw [← hd, pk_rem (by omega) (by omega) (by omega), show (16 * o + v) % 16 = v by omega]
    have fin : ∀ w2, SO S N p w2 → ∃ w', m_L_isSo_j550 N' N x8 x11 (nI p) (nI (tt_li S.1 p).length) (nI i) w2 (m_L_isSo_L454 N' N x8 x11 (nI p) (nI (tt_li S.1 p).length) kx n) kx = kx (nI 1) w' ∧ SO S N p w' := by
      intro w2 h2
      rw [m_L_isSo_j550, m_L_isSo_j555, nI_add]
      exact ih n (i + 1) w2 (by omega) (by omega) h2
    have hpf := sml_12 (inv_sml K I.2.2) (p := p) (o := o) (by omega) ho
    have go : ∃ w', m_L_isSo_j496 N' N x8 x11 (nI p) (nI (tt_li S.1 p).length) (nI i) (nI (16 * o + v)) w (m_L_isSo_L454 N' N x8 x11 (nI p) (nI (tt_li S.1 p).length) kx n) kx = kx (nI 1) w' ∧ SO S N p w' := by
      have hout : w N (nI o).toNatClampNeg = nI (pfx S.1 p o) := by rw [nI_clamp (by omega)]; exact h.2.2 o ho
      rw [m_L_isSo_j496, hkq, b_b, l_shown ho hv12, b_b, if_neg (by exact fun q => q rfl), hd, hm, if_pos (by rw [z_ib (by omega)]; exact ho), hout]
      by_cases c : pfx S.1 p o < v
      · rw [if_pos (by rw [z_lt (by omega) (by omega)]; exact c)]
        exact fin w h
      · obtain ⟨w1, s1, s2⟩ := f_status h.1 (nI p) (nI o) (nI v)
        rw [dn_nI (by omega), dn_nI (by omega), dn_nI (by omega)] at s1
        have hk : tt_kn S.1 (4 * p + o) v = true := pre_in h1 (Nat.le_trans (Nat.not_lt.mp c) (pfx_ini S.1 p o))
        have hst : sq_status S.1 p o v = nI 3 := by
          unfold sq_status
          rw [if_pos ⟨hp, ho, h1, hvw⟩, if_pos hk, if_pos (by omega), if_pos (by rw [← e]; exact List.getElem_mem hlt)]
        rw [hst] at s1
        rw [if_neg (by rw [z_lt (by omega) (by omega)]; exact c), s1, b_b, lt_eq, if_neg (by exact fun q => q rfl)]
        exact fin _ (so_wj (by omega) h s2)
    rw [m_L_isSo_L454, if_neg (by rw [z_le (by omega) (by omega)]; omega), if_neg (by decide)]
    by_cases z : p = 0
    · have hr := rl_ro h.2.1
      have hk0 := rlr_at hr (k := i) (by rw [← z]; exact hlt)
      have e2 : (tt_li S.1 0)[i]'(by rw [← z]; exact hlt) = (tt_li S.1 p)[i] := by simp only [z]
      rw [e2, hlu] at hk0
      rw [if_neg (by rw [z]; decide), nI_add, if_pos (by rw [z_ib (by omega)]; omega), nI_clamp (by omega), show 1 + i = 0 + 1 + i by omega, hk0]
      exact go
    · have hr := rl_ke h.2.1 (c := p) (by omega) (by omega)
      have hk0 := rlr_at hr hlt
      have := inv_len K p (by omega) (by omega)
      rw [hlu] at hk0
      rw [if_pos (by rw [z_eq0 (by omega)]; exact z), e13 (by omega), nI_add, nI_add, if_pos (by rw [z_ib (by omega)]; omega), nI_clamp (by omega), hk0]
      exact go
theorem l_so_L647 (I : LI S.1) {p d r way N N' : Nat} (hN : 497 ≤ N) (h1 : 1 ≤ p) (hp : p < tt_nu S.1 0) (hrd : r = 493 ∧ d = 8 ∧ way = 0 ∨ r = 494 ∧ d = 16 ∧ way = 1) (x8 x11 : Int32) (kx : Int32 → Wd → Option (Int32 × Wd)) : ∀ (m n i : Nat) (w : Wd), i + m = (tt_li S.1 (d + p)).length → m < n → SO S N p w → m_L_isSo_L647 N' N r x8 x11 (nI p) (nI way) (nI (tt_li S.1 (d + p)).length) kx n (nI 1) (nI i) w = kx (nI 1) w := by
  have K := I.K
  have h5 := I.2.1
  have hrd3 : rdOk r d := by rcases hrd with e | e; exact Or.inl ⟨e.1, e.2.1⟩; exact Or.inr (Or.inl ⟨e.1, e.2.1⟩)
  have hd : d + p < 24 ∧ 8 ≤ d + p ∧ way < 2 ∧ qi p way = d + p := by
    rcases hrd with ⟨-, rfl, rfl⟩ | ⟨-, rfl, rfl⟩
    · exact ⟨by omega, by omega, by omega, by unfold qi; rw [if_pos rfl]⟩
    · exact ⟨by omega, by omega, by omega, by unfold qi; rw [if_neg (by decide)]⟩
  have h12 := it_q12 K (d + p) hd.2.1 hd.1
  intro m
  induction m with
  | zero =>
    intro n i w hi hn h
    obtain ⟨n, rfl⟩ : ∃ m, n = m + 1 := ⟨n - 1, by omega⟩
    rw [m_L_isSo_L647, if_pos (by rw [z_le (by omega) (by omega)]; omega)]
  | succ m ih =>
    intro n i w hi hn h
    obtain ⟨n, rfl⟩ : ∃ m, n = m + 1 := ⟨n - 1, by omega⟩
    have hlt : i < (tt_li S.1 (d + p)).length := by omega
    have hup := K.2.2.2.2.2.2.2.2.2.1 (d + p) _ hd.1 (List.getElem_mem hlt)
    obtain ⟨o, v, e, ho, h1', hvw⟩ := hup
    have hv12 := Nat.le_trans hvw (I.2.2 o ho)
    have hlu : lu ((tt_li S.1 (d + p))[i]) = 16 * o + v := by rw [e]; exact lu_ov hv12
    have hq : m_X7_queued (nI p) (nI way) (nI i) w = some (nI (100 * o + v)) := by
      rw [q_queued h.1.1 K]
      unfold sq_queued
      have n1 : ¬ nI i < -1 := fun q => nI_pos (n := i) (by omega) (Int32.lt_trans q (by decide))
      have n2 : ¬ nI i = -1 := fun q => nI_pos (n := i) (by omega) (by rw [q]; decide)
      rw [dn_nI (show p < 2 ^ 31 by omega), dn_nI (show way < 2 ^ 31 by omega), if_pos ⟨⟨h1, hp⟩, hd.2.2.1⟩, if_neg n1, if_neg n2, dn_nI (by omega), hd.2.2.2, if_pos hlt, so_at (T := S.1) hlt, e]
    have hr := rl_get h.2.1 hrd3 h1 (by omega)
    have hk0 := rlr_at hr hlt
    rw [hlu] at hk0
    rw [m_L_isSo_L647, if_neg (by rw [z_le (by omega) (by omega)]; omega), if_neg (by decide), hq, b_b, e13 h1, nI_add, nI_add, if_pos (by rw [z_ib (by omega)]; omega), nI_clamp (by omega), hk0, l_shown ho hv12, b_b, if_neg (by exact fun q => q rfl), m_L_isSo_j695, nI_add]
    exact ih n (i + 1) w (by omega) (by omega) h
theorem l_so_j594 (I : LI S.1) {p d r way N N' : Nat} (hN : 497 ≤ N) (h1 : 1 ≤ p) (hp : p < tt_nu S.1 0) (hrd : r = 493 ∧ d = 8 ∧ way = 0 ∨ r = 494 ∧ d = 16 ∧ way = 1) (x8 x11 : Int32) (kc : Int32 → Int32 → Wd → Option (Int32 × Wd)) (kx : Int32 → Wd → Option (Int32 × Wd)) {w : Wd} (h : SO S N p w) : m_L_isSo_j594 N' N r x8 x11 (nI p) (nI way) w kc kx = kc (nI 1) (nI (way + 1)) w := by
  have K := I.K
  have h5 := I.2.1
  have hF := FUb
  have hrd3 : rdOk r d := by rcases hrd with e | e; exact Or.inl ⟨e.1, e.2.1⟩; exact Or.inr (Or.inl ⟨e.1, e.2.1⟩)
  have hd : d + p < 24 ∧ 8 ≤ d + p ∧ way < 2 ∧ qi p way = d + p := by
    rcases hrd with ⟨-, rfl, rfl⟩ | ⟨-, rfl, rfl⟩
    · exact ⟨by omega, by omega, by omega, by unfold qi; rw [if_pos rfl]⟩
    · exact ⟨by omega, by omega, by omega, by unfold qi; rw [if_neg (by decide)]⟩
  have h12 := it_q12 K (d + p) hd.2.1 hd.1
  have hr := rl_get h.2.1 hrd3 h1 (by omega)
  have dp := dn_nI (show p < 2 ^ 31 by omega)
  have dw := dn_nI (show way < 2 ^ 31 by omega)
  have q1 : m_X7_queued (nI p) (nI way) (-1) w = some (nI (tt_li S.1 (d + p)).length) := by
    rw [q_queued h.1.1 K]
    unfold sq_queued
    rw [dp, dw, if_pos ⟨⟨h1, hp⟩, hd.2.2.1⟩, if_neg (by decide), if_pos rfl, hd.2.2.2]
  have q2 : m_X7_queued (nI p) (nI way) (nI (tt_li S.1 (d + p)).length) w = some (-9) := by
    rw [q_queued h.1.1 K]
    unfold sq_queued
    have n1 : ¬ nI (tt_li S.1 (d + p)).length < -1 := fun q => nI_pos (n := (tt_li S.1 (d + p)).length) (by omega) (Int32.lt_trans q (by decide))
    have n2 : ¬ nI (tt_li S.1 (d + p)).length = -1 := fun q => nI_pos (n := (tt_li S.1 (d + p)).length) (by omega) (by rw [q]; decide)
    rw [dp, dw, if_pos ⟨⟨h1, hp⟩, hd.2.2.1⟩, if_neg n1, if_neg n2, dn_nI (by omega), hd.2.2.2, if_neg (Nat.lt_irrefl _)]
  have L := l_so_L647 I (N := N) (N' := N') hN h1 hp hrd x8 x11 (fun x9_1 w2 => kc x9_1 (nI way + nI 1) w2) (tt_li S.1 (d + p)).length FU 0 w (by omega) (by omega) h
  rw [m_L_isSo_j594, e13 h1, if_pos (by rw [z_ib (by omega)]; omega), nI_clamp (by omega), hr.1, lt_eq, q1, b_b, if_neg (by exact fun q => q rfl), q2, b_b, if_neg (by exact fun q => q rfl), m_L_isSo_j642]
  refine Eq.trans L ?_
  rw [nI_add]
theorem l_so_L566 (I : LI S.1) {p N N' : Nat} (hN : 497 ≤ N) (hp : p < tt_nu S.1 0) (x8 x11 : Int32) (kx : Int32 → Wd → Option (Int32 × Wd)) (h : SO S N p w) (n : Nat) : m_L_isSo_L566 N' N x8 x11 (nI p) kx (n + 3) (nI 1) (nI 0) w = kx (nI 1) w := by
  have h5 := I.2.1
  by_cases z : p = 0
  · subst z
    rw [m_L_isSo_L566, if_neg (by decide), if_pos (by decide)]
  · have np : (nI p ≤ 0) = False := by rw [z_le0 (by omega)]; exact propext ⟨z, False.elim⟩
    rw [m_L_isSo_L566, if_neg (by decide), if_neg (by rw [np]; exact id), if_neg (by decide), if_neg (by decide), l_so_j594 I (d := 8) (way := 0) hN (by omega) hp (Or.inl ⟨rfl, rfl, rfl⟩) x8 x11 _ kx h]
    rw [show nI (0 + 1) = nI 1 from rfl, m_L_isSo_L566, if_neg (by decide), if_neg (by rw [np]; exact id), if_neg (by decide), if_pos (by decide), l_so_j594 I (d := 16) (way := 1) hN (by omega) hp (Or.inr ⟨rfl, rfl, rfl⟩) x8 x11 _ kx h]
    rw [show nI (1 + 1) = nI 2 from rfl, m_L_isSo_L566, if_pos (by decide)]
def utF (T : TT) (p : Nat) : Nat := fb_ct (fun p => decide (sum4 (pfx T p) = sum4 (tt_wr T))) p
theorem so_sum (f : Nat → Nat) : fb_sm f 4 = sum4 f := by
  unfold sum4
  rw [fb_sm_succ, fb_sm_succ, fb_sm_succ, fb_sm_succ]
  show 0 + f 0 + f 1 + f 2 + f 3 = _
  omega
theorem l_so_body (I : LI S.1) {p N N' : Nat} (hN : 497 ≤ N) (hp : p < tt_nu S.1 0) (F : Nat) (k0 : Int32 → Int32 → Int32 → Wd → Option (Int32 × Wd)) (kx : Int32 → Int32 → Wd → Option (Int32 × Wd)) (h : SO S N p w) : ∃ w', m_L_isSo_j349 N' N (nI (sum4 (tt_wr S.1))) (nI 1) (nI F) (nI p) (nI (sum4 (pfx S.1 p))) (nI (sum4 (fun o => kc (tt_kn S.1 (4 * p + o))))) w k0 kx = k0 (nI 1) (nI (F + if decide (sum4 (pfx S.1 p) = sum4 (tt_wr S.1)) = true then 1 else 0)) (nI (p + 1)) w' ∧ SO S N p w' := by
  have K := I.K
  have h5 := I.2.1
  have hF := FUb
  have h48 := li_len48 I (a := p) (by omega)
  have dp := dn_nI (show p < 2 ^ 31 by omega)
  have Sm := inv_sml K I.2.2
  have w0 := I.2.2 0 (by omega)
  have w1 := I.2.2 1 (by omega)
  have w2 := I.2.2 2 (by omega)
  have w3 := I.2.2 3 (by omega)
  have p0 := sml_12 Sm (p := p) (o := 0) (by omega) (by omega)
  have p1 := sml_12 Sm (p := p) (o := 1) (by omega) (by omega)
  have p2 := sml_12 Sm (p := p) (o := 2) (by omega) (by omega)
  have p3 := sml_12 Sm (p := p) (o := 3) (by omega) (by omega)
  have bw : sum4 (tt_wr S.1) ≤ 48 := by unfold sum4; omega
  have bp : sum4 (pfx S.1 p) ≤ 48 := by unfold sum4; omega
  -- from j388 on
  have fin : ∀ F' : Nat, ∃ w', m_L_isSo_j388 N' N (nI (sum4 (tt_wr S.1))) (nI 1) (nI F') (nI p) (nI (sum4 (pfx S.1 p))) (nI (sum4 (fun o => kc (tt_kn S.1 (4 * p + o))))) (nI (tt_li S.1 p).length) w k0 kx = k0 (nI 1) (nI F') (nI (p + 1)) w' ∧ SO S N p w' := by
    intro F'
    obtain ⟨u1, a1, a2⟩ := f_proxy h.1 (nI p) (nI 3)
    have e3 : sq_proxy S.1 (dn (nI p)) (dn (nI 3)) = nI (sum4 (fun o => kc (tt_kn S.1 (4 * p + o)))) := by
      rw [dp, dn_nI (by omega)]; unfold sq_proxy
      rw [if_pos hp, if_neg (by decide), if_neg (by decide), if_neg (by decide), if_pos rfl]
    rw [e3] at a1
    have s1 := so_wj (by omega) h a2
    obtain ⟨u2, b1, b2⟩ := f_proxy s1.1 (nI p) (nI 4)
    have e4 : sq_proxy S.1 (dn (nI p)) (dn (nI 4)) = nI (sum4 (pfx S.1 p)) := by
      rw [dp, dn_nI (by omega)]; unfold sq_proxy
      rw [if_pos hp, if_neg (by decide), if_neg (by decide), if_neg (by decide), if_neg (by decide), if_pos rfl]
    rw [e4] at b1
    have s2 := so_wj (by omega) s1 b2
    obtain ⟨u3, c1, c2⟩ := f_proxy s2.1 (nI p) (nI 5)
    have e5 : sq_proxy S.1 (dn (nI p)) (dn (nI 5)) = nI (tt_li S.1 p).length := by
      rw [dp, dn_nI (by omega)]; unfold sq_proxy
      rw [if_pos hp, if_neg (by decide), if_neg (by decide), if_neg (by decide), if_neg (by decide), if_neg (by decide), if_pos rfl]
    rw [e5] at c1
    have s3 := so_wj (by omega) s2 c2
    have hk : m_X7_kept (nI p) (nI (tt_li S.1 p).length) (wj u3 (wj u2 (wj u1 w))) = some (-9) := by
      rw [q_kept s3.1.1 K]
      unfold sq_kept
      rw [dp, if_pos hp, if_neg (nI_pos (by omega)), dn_nI (by omega), if_neg (Nat.lt_irrefl _)]
    rw [m_L_isSo_j388, if_neg (by decide), a1, b_b, lt_eq, if_neg (by exact fun q => q rfl), b1, b_b, lt_eq, if_neg (by exact fun q => q rfl), c1, b_b, lt_eq, if_neg (by exact fun q => q rfl), hk, b_b, if_neg (by exact fun q => q rfl), m_L_isSo_j449]
    obtain ⟨u4, d1, d2⟩ := l_so_L454 I (N := N) (N' := N') hN hp (nI (sum4 (tt_wr S.1))) (nI F') (fun x9_1 w2 => m_L_isSo_j563 N' N (nI (sum4 (tt_wr S.1))) x9_1 (nI F') (nI p) w2 k0 kx) (tt_li S.1 p).length FU 0 _ (by omega) (by omega) s3
    refine ⟨u4, Eq.trans d1 ?_, d2⟩
    obtain ⟨M, hM, -⟩ := FU5
    have L := l_so_L566 I (N := N) (N' := N') hN hp (nI (sum4 (tt_wr S.1))) (nI F') (fun x9_1 w2 => m_L_isSo_j709 N' N (nI (sum4 (tt_wr S.1))) x9_1 (nI F') (nI p) w2 k0 kx) d2 (M + 2)
    rw [m_L_isSo_j563, hM]
    refine Eq.trans L ?_
    rw [m_L_isSo_j709, nI_add]
  have j363 : ∀ s : Nat, s = (if decide (sum4 (pfx S.1 p) = sum4 (tt_wr S.1)) = true then 1 else 0) → ∃ w', m_L_isSo_j363 N' N (nI (sum4 (tt_wr S.1))) (nI 1) (nI p) (nI (sum4 (pfx S.1 p))) (nI (sum4 (fun o => kc (tt_kn S.1 (4 * p + o))))) (nI F) (nI s) w k0 kx = k0 (nI 1) (nI (F + if decide (sum4 (pfx S.1 p) = sum4 (tt_wr S.1)) = true then 1 else 0)) (nI (p + 1)) w' ∧ SO S N p w' := by
    intro s hs
    rw [m_L_isSo_j363, nI_add, lt_eq, ← hs]
    by_cases z : p = 0
    · have hr := (rl_ro h.2.1).1
      rw [if_neg (by rw [z]; decide), if_pos (by decide), show (nI 0).toNatClampNeg = 0 from nI_clamp (by omega), hr, show (tt_li S.1 0).length = (tt_li S.1 p).length by rw [z]]
      exact fin _
    · have hr := (rl_ke h.2.1 (c := p) (by omega) (by omega)).1
      rw [if_pos (by rw [z_eq0 (by omega)]; exact z), e13 (by omega), if_pos (by rw [z_ib (by omega)]; omega), nI_clamp (by omega), hr]
      exact fin _
  rw [m_L_isSo_j349]
  by_cases c : sum4 (pfx S.1 p) = sum4 (tt_wr S.1)
  · rw [if_neg (by rw [c]; exact fun q => q rfl)]
    exact j363 1 (by rw [if_pos (decide_eq_true c)])
  · rw [if_pos (by rw [z_eq (by omega) (by omega)]; exact c)]
    exact j363 0 (by rw [decide_eq_false c]; rfl)
theorem l_so_L129 (I : LI S.1) {N N' : Nat} (hN : 497 ≤ N) (kx : Int32 → Int32 → Wd → Option (Int32 × Wd)) : ∀ (d n p : Nat) (w : Wd), p + d = tt_nu S.1 0 → d < n → FC S w → RepL S.1 w → ∃ w', m_L_isSo_L129 N' N (nI (sum4 (tt_wr S.1))) kx n (nI 1) (nI (utF S.1 p)) (nI p) w = kx (nI 1) (nI (utF S.1 (tt_nu S.1 0))) w' ∧ FC S w' ∧ RepL S.1 w' := by
  have h5 := I.2.1
  have Sm := inv_sml I.K I.2.2
  intro d
  induction d with
  | zero =>
    intro n p w hp hn hC hR
    obtain ⟨n, rfl⟩ : ∃ m, n = m + 1 := ⟨n - 1, by omega⟩
    have e : p = tt_nu S.1 0 := by omega
    refine ⟨w, ?_, hC, hR⟩
    rw [m_L_isSo_L129, if_pos (by decide), show (nI 0).toNatClampNeg = 0 from nI_clamp (by omega), rl_nu hR (by omega), if_pos (by rw [z_le (by omega) (by omega)]; omega), e]
  | succ d ih =>
    intro n p w hp hn hC hR
    obtain ⟨n, rfl⟩ : ∃ m, n = m + 1 := ⟨n - 1, by omega⟩
    obtain ⟨w1, a1, a2, a3⟩ := l_serve (q := N) hR Sm (p := p) (by omega) (by omega) (by omega)
    have so1 : SO S N p w1 := ⟨fc_fr hC (fun k hk => a3 k (by omega)), rl_fr hR (fun k _ hk => a3 k (by omega)), a2⟩
    obtain ⟨w2, b1, b2⟩ := l_so_L160 I (N := N) (N' := N') hN (show p < tt_nu S.1 0 by omega) (nI (sum4 (tt_wr S.1))) (nI (utF S.1 p)) (fun x9_3 x13_4 x14_5 w6 => m_L_isSo_j349 N' N (nI (sum4 (tt_wr S.1))) x9_3 (nI (utF S.1 p)) (nI p) x13_4 x14_5 w6 (m_L_isSo_L129 N' N (nI (sum4 (tt_wr S.1))) kx n) kx) 4 FU 0 w1 (by omega) (by have := FUb; omega) so1
    rw [so_sum, so_sum] at b1
    obtain ⟨w3, c1, c2⟩ := l_so_body I (N := N) (N' := N') hN (show p < tt_nu S.1 0 by omega) (utF S.1 p) (m_L_isSo_L129 N' N (nI (sum4 (tt_wr S.1))) kx n) kx b2
    obtain ⟨w', d1, d2⟩ := ih n (p + 1) w3 (by omega) (by omega) c2.1 c2.2.1
    refine ⟨w', ?_, d2⟩
    rw [m_L_isSo_L129, if_pos (by decide), show (nI 0).toNatClampNeg = 0 from nI_clamp (by omega), rl_nu hR (by omega), if_neg (by rw [z_le (by omega) (by omega)]; omega), if_neg (by decide), a1, b_b]
    refine Eq.trans b1 (Eq.trans c1 ?_)
    exact d1
theorem l_isSo (hC : FC S w) (hR : RepL S.1 w) (I : LI S.1) {N : Nat} (hN : 497 ≤ N) : ∃ w', m_L_isSo N w = some (nI 1, w') ∧ FC S w' ∧ RepL S.1 w' := by
  have h5 := I.2.1
  have hF := FUb
  have g20 : w 490 (nI 20).toNatClampNeg = nI (tt_wr S.1 0) := by rw [nI_clamp (by omega)]; exact rl_wr hR (o := 0) (by omega)
  have g21 : w 490 (nI 21).toNatClampNeg = nI (tt_wr S.1 1) := by rw [nI_clamp (by omega)]; exact rl_wr hR (o := 1) (by omega)
  have g22 : w 490 (nI 22).toNatClampNeg = nI (tt_wr S.1 2) := by rw [nI_clamp (by omega)]; exact rl_wr hR (o := 2) (by omega)
  have g23 : w 490 (nI 23).toNatClampNeg = nI (tt_wr S.1 3) := by rw [nI_clamp (by omega)]; exact rl_wr hR (o := 3) (by omega)
  have G : ∀ j, j < 7 → w 490 (nI j).toNatClampNeg = nI (tt_nu S.1 j) := fun j hj => by rw [nI_clamp (by omega)]; exact rl_nu hR hj
  have Ct : ∀ k : Nat, k < 8 → m_X7_count (nI k) w = some (sq_count S.1 S.2.1.length k) := fun k hk => by rw [f_count hC, dn_nI (by omega)]
  have c0 : m_X7_count (nI 0) w = some (nI (tt_nu S.1 0)) := by rw [Ct 0 (by omega)]; rfl
  have c1 : m_X7_count (nI 1) w = some (nI (tt_nu S.1 1)) := by rw [Ct 1 (by omega)]; rfl
  have c2 : m_X7_count (nI 2) w = some (nI (tt_nu S.1 2)) := by rw [Ct 2 (by omega)]; rfl
  have c3 : m_X7_count (nI 3) w = some (nI (sum4 (tt_wr S.1))) := by rw [Ct 3 (by omega)]; rfl
  have c4 : m_X7_count (nI 4) w = some (nI (tt_nu S.1 3)) := by rw [Ct 4 (by omega)]; rfl
  have c5 : m_X7_count (nI 5) w = some (nI (tt_nu S.1 4)) := by rw [Ct 5 (by omega)]; rfl
  have c6 : m_X7_count (nI 6) w = some (nI (tt_nu S.1 5)) := by rw [Ct 6 (by omega)]; rfl
  have c7 : m_X7_count (nI 7) w = some (nI (tt_nu S.1 6)) := by rw [Ct 7 (by omega)]; rfl
  have es : nI (tt_wr S.1 0 + tt_wr S.1 1 + tt_wr S.1 2 + tt_wr S.1 3) = nI (sum4 (tt_wr S.1)) := rfl
  obtain ⟨w1, e1⟩ : ∃ w1, w1 = va_up w N (fun _ => 0) := ⟨_, rfl⟩
  have hC1 : FC S w1 := fc_fr hC (fun k hk => by rw [e1, up_n (by omega)])
  have hR1 : RepL S.1 w1 := rl_fr hR (fun k _ hk => by rw [e1, up_n (by omega)])
  obtain ⟨w2, a1, a2, a3⟩ := l_so_L129 I (N := N) (N' := N + 1) hN (fun x9_2 x11_3 w4 => m_L_isSo_j715 (N + 1) x9_2 x11_3 w4) (tt_nu S.1 0) FU 0 w1 (by omega) (by omega) hC1 hR1
  obtain ⟨w3, u1, u2⟩ := f_utd a2
  refine ⟨wj w3 w2, ?_, fc_wj u2, rl_wj a3⟩
  rw [m_L_isSo, if_pos (by decide), if_pos (by decide), if_pos (by decide), if_pos (by decide), g20, g21, g22, g23, nI_add, nI_add, nI_add, es, lt_eq]
  rw [c0, b_b, if_pos (by decide), G 0 (by omega), if_neg (by exact fun q => q rfl)]
  rw [c1, b_b, if_pos (by decide), G 1 (by omega), if_neg (by exact fun q => q rfl)]
  rw [c2, b_b, if_pos (by decide), G 2 (by omega), if_neg (by exact fun q => q rfl)]
  rw [c3, b_b, if_neg (by exact fun q => q rfl)]
  rw [c4, b_b, if_pos (by decide), G 3 (by omega), if_neg (by exact fun q => q rfl)]
  rw [c5, b_b, if_pos (by decide), G 4 (by omega), if_neg (by exact fun q => q rfl)]
  rw [c6, b_b, if_pos (by decide), G 5 (by omega), if_neg (by exact fun q => q rfl)]
  rw [c7, b_b, if_pos (by decide), G 6 (by omega), if_neg (by exact fun q => q rfl)]
  rw [m_L_isSo_j116, lt_eq, ← e1]
  refine Eq.trans a1 ?_
  rw [m_L_isSo_j715, if_neg (by decide), u1, b_b, lt_eq, if_neg (by exact fun q => q rfl)]
end LSO
