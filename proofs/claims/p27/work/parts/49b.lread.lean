/-! ===== the law's reads ===== -/
/-- the class's world stands for S, the law's rows for T -/
def FL (S : ST) (T : TT) (w : Wd) : Prop := FC S w ∧ RepL T w
theorem fl_wj {S S' : ST} {T : TT} {w w1 : Wd} (h : FL S T w) (h1 : FC S' w1) : FL S' T (wj w1 w) := ⟨fc_wj h1, rl_wj h.2⟩
theorem fl_x {S : ST} {T T' : TT} {N : Nat} {w w' : Wd} (h : FL S T w) (hR : RepL T' w') (f : LFx N w w') : FL S T' w' := ⟨fc_fr h.1 (fun k hk => f k (Or.inl hk)), hR⟩
theorem cl_1 {S : ST} {x : Int32 × TT} : (closeS S x).1 = x.1 := rfl
theorem cl_2 {S : ST} {x : Int32 × TT} : (closeS S x).2.1 = x.2 := rfl
theorem li_keep {T : TT} (I : LI T) {p u : Nat} (h0 : p ≠ 0) (hp : p < 8) (hu : upOk (tt_wr T) u) : LI (keep T p u) := I.of (keepR_inv I.K h0 hp hu) (keep_fx T hp u)
section LREAD
variable {T : TT} {w : Wd} {S : ST}
theorem li_len48 (I : LI T) {a : Nat} (ha : a < 8) : (tt_li T a).length ≤ 48 := by
  rcases Nat.eq_zero_or_pos a with e | e
  · rw [e]; exact root48 I.K I.2.2
  · have := inv_len I.K a e (by omega); omega
theorem l_rd_L125 (h : RepL T w) (I : LI T) {o v N : Nat} (ho : o < 4) (h1 : 1 ≤ v) (hv : v ≤ 12) (x6 : Int32) (kx : Int32 → Int32 → Wd → Option (Int32 × Wd)) : ∀ (d a k n f : Nat), a ≤ d → a < tt_nu T 0 → d < n → d < f → k + d < 99 → ∃ a' k', m_L_isRead_L125 N x6 (nI o) (nI v) kx n (nI k) (nI a) w = kx (nI k') (nI a') w ∧ a' < tt_nu T 0 ∧ k' ≤ k + d ∧ k ≤ k' ∧ ((100 * o + v ∈ tt_li T a' ∧ hopF T (100 * o + v) f a k = k') ∨ (¬ 100 * o + v ∈ tt_li T a' ∧ hopF T (100 * o + v) f a k = 99)) := by
  have h5 := I.2.1
  have hu : val12 (100 * o + v) := ⟨o, v, rfl, ho, h1, hv⟩
  have has : ∀ a, a < tt_nu T 0 → m_L_has 495 496 (nI a) (nI (16 * o + v)) w = some (nI (if 100 * o + v ∈ tt_li T a then 1 else 0)) := by
    intro a ha
    have := l_has h (p := a) (u := 100 * o + v) (by omega) (li_len48 I (by omega)) (fun q => inv_len I.K a q (by omega)) (li_val12 I.K I.2.2 (by omega)) hu
    rw [lu_ov hv] at this
    exact this
  intro d
  induction d with
  | zero =>
    intro a k n f ha hn0 hn hf hk
    obtain ⟨n, rfl⟩ : ∃ m, n = m + 1 := ⟨n - 1, by omega⟩
    obtain ⟨f, rfl⟩ : ∃ m, f = m + 1 := ⟨f - 1, by omega⟩
    have e : a = 0 := by omega
    subst e
    refine ⟨0, k, by rw [m_L_isRead_L125, if_pos (by decide)], hn0, by omega, Nat.le_refl _, ?_⟩
    by_cases c : 100 * o + v ∈ tt_li T 0
    · exact Or.inl ⟨c, by rw [hopF, if_pos c]⟩
    · exact Or.inr ⟨c, by rw [hopF, if_neg c, if_pos rfl]⟩
  | succ d ih =>
    intro a k n f ha hn0 hn hf hk
    obtain ⟨n, rfl⟩ : ∃ m, n = m + 1 := ⟨n - 1, by omega⟩
    obtain ⟨f, rfl⟩ : ∃ m, f = m + 1 := ⟨f - 1, by omega⟩
    rw [m_L_isRead_L125]
    by_cases z : a = 0
    · subst z
      refine ⟨0, k, by rw [if_pos (by decide)], hn0, by omega, Nat.le_refl _, ?_⟩
      by_cases c : 100 * o + v ∈ tt_li T 0
      · exact Or.inl ⟨c, by rw [hopF, if_pos c]⟩
      · exact Or.inr ⟨c, by rw [hopF, if_neg c, if_pos rfl]⟩
    · rw [if_neg (by rw [z_le0 (by omega)]; exact z), pk_mul, nI_add, has a hn0, b_b]
      by_cases c : 100 * o + v ∈ tt_li T a
      · rw [if_pos c, if_pos (by decide)]
        exact ⟨a, k, rfl, hn0, by omega, Nat.le_refl _, Or.inl ⟨c, by rw [hopF, if_pos c]⟩⟩
      · have hpa := I.K.2.2.2.1.2 a (by omega) (by omega)
        obtain ⟨a', k', b1, b2, b3, b4, b5⟩ := ih (tt_pa T a) (k + 1) n f (by omega) (by omega) (by omega) (by omega) (by omega)
        refine ⟨a', k', ?_, b2, by omega, by omega, ?_⟩
        · rw [if_neg c, if_neg (by decide), nI_add, if_pos (by rw [z_ib (by omega)]; omega), nI_clamp (by omega), rl_pa h (by omega), lt_eq, nI_add]
          exact b1
        · rw [hopF, if_neg c, if_neg z]
          exact b5
theorem l_isRead (h : FL S S.1 w) (I : LI S.1) {p o v N : Nat} (hN : 497 ≤ N) (hp : p < tt_nu S.1 0) (ho : o < 4) (h1 : 1 ≤ v) (hv : v ≤ 12) : ∃ (w' : Wd) (S' : ST), m_L_isRead N (nI p) (nI o) (nI v) w = some (nI 1, w') ∧ FL S' S'.1 w' ∧ LI S'.1 := by
  have hF := FUb
  have K := I.K
  have h5 := I.2.1
  have hwr := I.2.2 o ho
  have Sm := inv_sml K I.2.2
  have dp : dn (nI p) = p := dn_nI (by omega)
  have dO : dn (nI o) = o := dn_nI (by omega)
  have dv : dn (nI v) = v := dn_nI (by omega)
  have d0 : dn (nI 0) = 0 := dn_nI (by omega)
  obtain ⟨w1, e1⟩ : ∃ w1, w1 = va_up w N (fun _ => 0) := ⟨_, rfl⟩
  have f1 : LFr N w w1 := by rw [e1]; exact LFr.up (Nat.le_refl _) hN
  have hR1 : RepL S.1 w1 := rl_fr h.2 (fun k _ hk => by rw [e1, up_n (by omega)])
  have hF1 : FL S S.1 w1 := fl_x h hR1 f1.x
  have hg : w1 490 (20 + o) = nI (tt_wr S.1 o) := rl_wr hR1 ho
  -- the class's read
  have rd : ∀ (T2 : TT) (w2 : Wd), FL S T2 w2 → ∃ w3, m_X7_read (nI p) (nI o) (nI v) w2 = some ((sp_read S.1 p o v).1, w3) ∧ FL (o_read S (nI p) (nI o) (nI v)).2 T2 (wj w3 w2) ∧ (o_read S (nI p) (nI o) (nI v)).2.1 = (sp_read S.1 p o v).2 := by
    intro T2 w2 h2
    obtain ⟨w3, a1, a2⟩ := f_read h2.1 (nI p) (nI o) (nI v)
    refine ⟨w3, ?_, fl_wj h2 a2, ?_⟩
    · rw [a1]; unfold o_read; rw [cl_1, dp, dO, dv]
    · unfold o_read; rw [cl_2, dp, dO, dv]
  rw [m_L_isRead, lt_eq, ← e1, nI_add, if_pos (by rw [z_ib (by omega)]; omega), nI_clamp (by omega), hg]
  by_cases c1 : v ≤ tt_wr S.1 o
  · have hw : wasW S.1 o v := ⟨ho, h1, c1⟩
    obtain ⟨w3, a1, a2, a3⟩ := l_serve (q := N) hR1 Sm (p := p) (by omega) (by omega) (by omega)
    have hR3 : RepL S.1 w3 := rl_fr hR1 (fun k _ hk => a3 k (by omega))
    have fr3 : LFr N w1 w3 := LFr.ne a3 (by omega) (Or.inr (Nat.le_refl _))
    have hF3 : FL S S.1 w3 := fl_x hF1 hR3 fr3.x
    have hpf := sml_12 Sm (p := p) (o := o) (by omega) ho
    have ho3 : w3 N (nI o).toNatClampNeg = nI (pfx S.1 p o) := by rw [nI_clamp (by omega)]; exact a2 o ho
    rw [if_pos (by rw [z_le (by omega) (by omega)]; exact c1), a1, b_b, if_pos (by rw [z_ib (by omega)]; exact ho), ho3]
    by_cases c2 : v ≤ pfx S.1 p o
    · rw [if_pos (by rw [z_le (by omega) (by omega)]; exact c2)]
      obtain ⟨a', k', b1, b2, b3, b4, b5⟩ := l_rd_L125 hR3 I (N := N + 1) ho h1 hv (nI p) (fun x10_5 x11_6 w7 => m_L_isRead_j165 (N + 1) (nI p) (nI o) (nI v) x10_5 x11_6 w7) 7 p 0 FU 8 (by omega) hp (by omega) (by omega) (by omega)
      rw [show m_L_isRead_L125 (N + 1) (nI p) (nI o) (nI v) (fun x10_5 x11_6 w7 => m_L_isRead_j165 (N + 1) (nI p) (nI o) (nI v) x10_5 x11_6 w7) FU (nI 0) (nI p) w3 = _ from b1]
      have hu : val12 (100 * o + v) := ⟨o, v, rfl, ho, h1, hv⟩
      have hup : upOk (tt_wr S.1) (100 * o + v) := wasW_up hw
      have has := l_has hR3 (p := a') (u := 100 * o + v) (by omega) (li_len48 I (by omega)) (fun q => inv_len K a' q (by omega)) (li_val12 K I.2.2 (by omega)) hu
      rw [lu_ov hv] at has
      rw [m_L_isRead_j165, pk_mul, nI_add, has, b_b]
      rcases b5 with ⟨m, hh⟩ | ⟨m, hh⟩
      · have k99 : ¬ hopF S.1 (100 * o + v) 8 p 0 = 99 := by omega
        have esp : sp_read S.1 p o v = (nI k', if 0 < k' then keep S.1 p (100 * o + v) else S.1) := by
          unfold sp_read
          rw [if_pos ⟨hp, hw⟩, if_pos c2, if_neg k99, hh]
        rw [if_pos m, if_pos (by decide)]
        by_cases z : k' = 0
        · subst z
          obtain ⟨w4, r1, r2, r3⟩ := rd S.1 w3 hF3
          rw [esp] at r1 r3
          rw [if_pos (by decide), m_L_isRead_j231, r1, b_b, lt_eq, if_neg (by exact fun q => q rfl)]
          rw [if_neg (by omega)] at r3
          refine ⟨_, _, rfl, ⟨r2.1, ?_⟩, ?_⟩
          · rw [r3]; exact r2.2
          · rw [r3]; exact I
        · have hp0 : p ≠ 0 := by
            intro e
            subst e
            have := hop_root (T := S.1) (u := 100 * o + v) (n := 8) k99
            omega
          obtain ⟨w4, g1, g2, g3⟩ := l_keep (N := N + 1) hR3 Sm (inv_len K) (p := p) (u := 100 * o + v) (by omega) (by omega) K.2.2.1.2 (root48 K I.2.2) (li_val12 K I.2.2 (by omega)) hu
          rw [lu_ov hv] at g1
          have hF4 : FL S (keep S.1 p (100 * o + v)) w4 := fl_x hF3 g2 g3.x
          obtain ⟨w5, r1, r2, r3⟩ := rd _ w4 hF4
          rw [esp] at r1 r3
          rw [if_neg (by rw [z_le0 (by omega)]; exact z), g1, b_b, m_L_isRead_j231, r1, b_b, lt_eq, if_neg (by exact fun q => q rfl)]
          rw [if_pos (by omega)] at r3
          refine ⟨_, _, rfl, ⟨r2.1, ?_⟩, ?_⟩
          · rw [r3]; exact r2.2
          · rw [r3]; exact li_keep I hp0 (by omega) hup
      · have esp : sp_read S.1 p o v = (-9, S.1) := by
          unfold sp_read
          rw [if_pos ⟨hp, hw⟩, if_pos c2, if_pos hh]
        obtain ⟨w4, r1, r2, r3⟩ := rd S.1 w3 hF3
        rw [esp] at r1 r3
        rw [if_neg m, if_neg (by decide), r1, b_b, lt_eq, if_neg (by exact fun q => q rfl)]
        refine ⟨_, _, rfl, ⟨r2.1, ?_⟩, ?_⟩
        · rw [r3]; exact r2.2
        · rw [r3]; exact I
    · have esp : sp_read S.1 p o v = (-2, S.1) := by
        unfold sp_read
        rw [if_pos ⟨hp, hw⟩, if_neg c2]
      obtain ⟨w4, r1, r2, r3⟩ := rd S.1 w3 hF3
      rw [esp] at r1 r3
      rw [if_neg (by rw [z_le (by omega) (by omega)]; exact c2), r1, b_b, lt_eq, if_neg (by exact fun q => q rfl)]
      refine ⟨_, _, rfl, ⟨r2.1, ?_⟩, ?_⟩
      · rw [r3]; exact r2.2
      · rw [r3]; exact I
  · have nw : ¬ wasW S.1 o v := fun q => c1 q.2.2
    have esp : sp_read S.1 p o v = (-1, S.1) := by
      unfold sp_read
      rw [if_neg (fun q => nw q.2)]
    obtain ⟨w4, r1, r2, r3⟩ := rd S.1 w1 hF1
    rw [esp] at r1 r3
    generalize (o_read S (nI p) (nI o) (nI v)).2 = S2 at r2 r3
    dsimp only at r3
    rw [← r3] at r2
    rw [if_neg (by rw [z_le (by omega) (by omega)]; exact c1), r1, b_b, lt_eq, if_neg (by exact fun q => q rfl)]
    obtain ⟨w5, s1, s2⟩ := f_status r2.1 (nI p) (nI o) (nI v)
    have es : sq_status S2.1 (dn (nI p)) (dn (nI o)) (dn (nI v)) = -1 := by
      rw [dp, dO, dv, r3]; unfold sq_status; rw [if_neg (fun q => nw q.2)]
    rw [es] at s1
    have hF5 := fl_wj r2 s2
    rw [s1, b_b, lt_eq, if_neg (by exact fun q => q rfl)]
    obtain ⟨w6, t1, t2⟩ := f_missing hF5.1 (nI p) (nI o) (nI v)
    have et : sq_missing S2.1 (dn (nI p)) (dn (nI o)) (dn (nI v)) = -1 := by
      rw [dp, dO, dv, r3]; unfold sq_missing; rw [if_neg (fun q => nw q.2)]
    rw [et] at t1
    have hF6 := fl_wj hF5 t2
    rw [t1, b_b, lt_eq, if_neg (by exact fun q => q rfl)]
    have ec : m_X7_cause (nI o) (nI v) (nI 0) (wj w6 (wj w5 (wj w4 w1))) = some (-1) := by
      rw [q_cause hF6.1.1 (by rw [r3]; exact K)]
      rw [d0, dO, dv, r3]
      unfold sq_cause
      rw [if_neg (fun q => nw q.2)]
    rw [ec, b_b, if_neg (by exact fun q => q rfl)]
    exact ⟨_, S2, rfl, hF6, by rw [r3]; exact I⟩
end LREAD
