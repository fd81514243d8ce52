/-! ===== the reference: read, upToDate, the text ===== -/
theorem all4 {c0 c1 c2 c3 : Prop} [Decidable c0] [Decidable c1] [Decidable c2] [Decidable c3] : (if (if (if (if 1 = 1 ∧ c0 then 1 else 0) = 1 ∧ c1 then 1 else 0) = 1 ∧ c2 then 1 else 0) = 1 ∧ c3 then 1 else 0) = if c0 ∧ c1 ∧ c2 ∧ c3 then 1 else (0 : Nat) := by
  by_cases h0 : c0 <;> by_cases h1 : c1 <;> by_cases h2 : c2 <;> by_cases h3 : c3 <;> simp [h0, h1, h2, h3]
section RREAD
variable {T : TT} {S : ST} {w : Wd}
theorem r_hops (h : RepR T (w 1)) (I : InvT T) {u : Nat} (hu : u < 2 ^ 31) (x1 : Int32) (kx : Int32 → Int32 → Wd → Option (Int32 × Wd)) : ∀ (n m a k : Nat), a < n → a < 8 → n < m → k + n < 100 → ∃ k' a', a' < 8 ∧ k' ≤ k + a ∧ m_X8_read_L51 x1 (nI u) kx m (nI k) (nI a) w = kx (nI k') (nI a') w ∧ ((u ∈ tt_li T a' ∧ hopF T u n a k = k') ∨ (u ∉ tt_li T a' ∧ hopF T u n a k = 99)) := by
  intro n
  induction n with
  | zero => intro m a k ha; omega
  | succ n ih =>
    intro m a k ha ha8 hm hk
    obtain ⟨m, rfl⟩ : ∃ i, m = i + 1 := ⟨m - 1, by omega⟩
    rw [m_X8_read_L51, hopF]
    by_cases c : a = 0
    · refine ⟨k, a, ha8, by omega, by rw [if_pos (by rw [c]; decide)], ?_⟩
      by_cases g : u ∈ tt_li T a
      · left; exact ⟨g, by rw [if_pos g]⟩
      · right; exact ⟨g, by rw [if_neg g, if_pos c]⟩
    · obtain ⟨kp, b1, b2⟩ := r_keptPlace h (p := a) ha8 hu (li_lt I ha8)
      have hpa := I.2.2.2.1.2 a (by omega) ha8
      rw [if_neg (by rw [z_le0 (by omega)]; exact c), b1, b_b]
      by_cases g : u ∈ tt_li T a
      · have n0 : ¬ kp < 0 := fun z => (b2.mp z) g
        exact ⟨k, a, ha8, by omega, by rw [if_pos (Int32.not_lt.mp n0)], Or.inl ⟨g, by rw [if_pos g]⟩⟩
      · obtain ⟨k', a', q1, q2, q3, q4⟩ := ih m (tt_pa T a) (k + 1) (by omega) (by omega) (by omega) (by omega)
        refine ⟨k', a', q1, by omega, ?_, by rw [if_neg g, if_neg c]; exact q4⟩
        rw [if_neg (fa_of_lt (b2.mpr g)).2.1, nI_add, if_pos (ib_n (by omega) (by omega)), nI_clamp (by omega), rr_pa h (by omega) ha8, lt_eq, nI_add]
        exact q3
theorem g_read (h : FR S w) (x y z : Int32) : ∃ w', m_X8_read x y z w = some ((o_read S x y z).1, w') ∧ FR (o_read S x y z).2 w' := by
  have I := h.2.1.1
  have hnp := it_np I.B
  have iq := iq_read h.2.1 (dn x) (dn y) (dn z)
  have bad : ¬ (dn x < tt_nu S.1 0 ∧ wasW S.1 (dn y) (dn z)) → ∃ w', some ((-1 : Int32), w) = some ((o_read S x y z).1, w') ∧ FR (o_read S x y z).2 w' := by
    intro hab
    have es : sp_read S.1 (dn x) (dn y) (dn z) = (-1, S.1) := if_neg hab
    unfold o_read closeS
    rw [es, if_pos m1n]
    exact ⟨w, rfl, h⟩
  rw [m_X8_read, r_isProxy h.1 I.B, b_b, r_isUpdate h.1 I, b_b]
  by_cases c : dn x < tt_nu S.1 0
  · rw [if_pos c, if_neg (by decide)]
    by_cases d : wasW S.1 (dn y) (dn z)
    · have h24 := it_wr I d.1
      have ex := dn_lt c (by omega)
      have ey := dn_lt d.1 (by omega)
      have ez := dn_lt (Nat.lt_succ_of_le d.2.2) (by omega)
      unfold o_read closeS
      generalize dn x = p at *
      generalize dn y = o at *
      generalize dn z = v at *
      subst ex; subst ey; subst ez
      have hv : v ≤ 24 := by have := d.2.2; omega
      have ho := d.1
      have hv1 := d.2.1
      obtain ⟨w1, a1, a2, a3⟩ := r_serves h.1 I.B (p := p) (by omega)
      have h1 := rr_5 h.1 a3
      have hpf := pfx_le S.1 p o
      have hq := fr_q h (w' := w1) (fun k k5 _ => a3 k k5)
      rw [if_pos d, if_pos (by decide), a1, b_b, if_pos (ib_n (by omega) (by omega))]
      by_cases g : v ≤ pfx S.1 p o
      · have es : sp_read S.1 p o v = (if hopF S.1 (100 * o + v) 8 p 0 = 99 then (-9, S.1) else (nI (hopF S.1 (100 * o + v) 8 p 0), if 0 < hopF S.1 (100 * o + v) 8 p 0 then keep S.1 p (100 * o + v) else S.1)) := by rw [sp_read, if_pos ⟨c, d⟩, if_pos g]
        have hF := FUb
        obtain ⟨k', a', q1, q2, q3, q4⟩ := r_hops h1 I (u := 100 * o + v) (by omega) (nI p) (fun x5_6 x6_7 w8 => m_X8_read_j85 (nI p) (nI (100 * o + v)) x5_6 x6_7 w8) 8 FU p 0 (by omega) (by omega) (by omega) (by omega)
        obtain ⟨kp, b1, b2⟩ := r_keptPlace h1 (p := a') (u := 100 * o + v) q1 (by omega) (li_lt I q1)
        rw [es] at iq ⊢
        rw [if_pos (by rw [nI_clamp (by omega), a2 o ho, z_le (by omega) (by omega)]; exact g), pk_mul, nI_add, lt_eq]
        change m_X8_read_L51 (nI p) (nI (100 * o + v)) _ FU (nI 0) (nI p) w1 = _ at q3
        rw [q3, m_X8_read_j85, b1, b_b]
        rcases q4 with ⟨qm, qe⟩ | ⟨qm, qe⟩
        · have n0 : ¬ kp < 0 := fun z => (b2.mp z) qm
          rw [qe, if_neg (show ¬ k' = 99 by omega)] at iq ⊢
          obtain ⟨w2, e1, e2, e3⟩ := fr_hold hq
          rw [if_pos (Int32.not_lt.mp n0), e1, b_b]
          dsimp only at iq ⊢
          rw [if_neg (nn_nI (show k' < 2 ^ 31 by omega))]
          by_cases k0 : 0 < k'
          · have hp0 : p ≠ 0 := by
              intro e
              rw [e] at qe
              have := hop_root (T := S.1) (u := 100 * o + v) (n := 8) (by rw [qe]; omega)
              omega
            have hr := rr_col e3 (p := p) (by omega)
            have h12 := it_c12 I (p := p) (by omega) (by omega)
            obtain ⟨w3, f1, f2, f3⟩ := r_keeps e3 I.B (p := p) (u := 100 * o + v) c (by omega) (it_val I (by omega)) ⟨o, v, rfl, ho, hv1, hv⟩
            rw [if_pos k0] at iq ⊢
            obtain ⟨w4, g1, g2⟩ := fr_end (e2.w f3.w) f2 iq (nI k')
            rw [if_neg (by rw [z_le0 (by omega)]; omega), f1, b_b, m_X8_read_j115, g1, b_b]
            exact ⟨w4, rfl, g2⟩
          · rw [if_neg k0] at iq ⊢
            obtain ⟨w4, g1, g2⟩ := fr_end e2 e3 iq (nI k')
            rw [if_pos (by rw [z_le0 (by omega)]; omega), m_X8_read_j115, g1, b_b]
            exact ⟨w4, rfl, g2⟩
        · rw [if_neg (fa_of_lt (b2.mpr qm)).2.1, qe, if_pos rfl]
          refine ⟨w1, rfl, ?_⟩
          show FR (S.1, (if (-9 : Int32) < 0 then S.2.1 else push S.2.1 S.1), S.2.2) w1
          rw [if_pos (by decide)]
          exact hq
      · have es : sp_read S.1 p o v = (-2, S.1) := by rw [sp_read, if_pos ⟨c, d⟩, if_neg g]
        rw [if_neg (by rw [nI_clamp (by omega), a2 o ho, z_le (by omega) (by omega)]; exact g), es, if_pos m2n]
        exact ⟨w1, rfl, hq⟩
    · rw [if_neg d, if_neg (by decide)]
      exact bad (fun q => d q.2)
  · rw [if_neg c, if_pos (by decide)]
    exact bad (fun q => c q.1)
theorem r_utd_L4 (I : InvT T) : ∀ (d n k : Nat) (w : Wd), k + d = tt_nu T 0 → d < n → RepR T (w 1) → ∃ w', m_X8_upToDate_L4 n (nI (fb_ct (fun p => decide (sum4 (pfx T p) = sum4 (tt_wr T))) k)) (nI k) w = some (nI (utd T), w') ∧ ∀ k, k ≠ 5 → w' k = w k := by
  have hnp := it_np I.B
  intro d
  induction d with
  | zero =>
    intro n k w hk hn h
    obtain ⟨n, rfl⟩ : ∃ m, n = m + 1 := ⟨n - 1, by omega⟩
    refine ⟨w, ?_, fun _ _ => rfl⟩
    rw [m_X8_upToDate_L4, if_pos (ib0 (by omega)), if_pos (by rw [nI_clamp (by omega), rr_nu h (by omega), z_le (by omega) (by omega)]; omega), utd, ← hk, Nat.add_zero]
  | succ d ih =>
    intro n k w hk hn h
    obtain ⟨n, rfl⟩ : ∃ m, n = m + 1 := ⟨n - 1, by omega⟩
    obtain ⟨w1, a1, a2, a3⟩ := r_serves h I.B (p := k) (by omega)
    have h1 := rr_5 h a3
    obtain ⟨w', b1, b2⟩ := ih n (k + 1) w1 (by omega) (by omega) h1
    rw [fb_ct_succ] at b1
    refine ⟨w', ?_, fun j hj => (b2 j hj).trans (a3 j hj)⟩
    obtain ⟨N, hN, -⟩ := FU5
    have hpw : ∀ o, o < 4 → pfx T k o ≤ tt_wr T o := fun o ho => pre_wr I (by omega) ho
    have st : ∀ (n' b o : Nat) (x1 : Int32) (kx : Int32 → Wd → Option (Int32 × Wd)), b ≤ 1 → o < 4 → m_X8_upToDate_L24 x1 (nI k) kx (n' + 1) (nI b) (nI o) w1 = m_X8_upToDate_L24 x1 (nI k) kx n' (nI (if b = 1 ∧ pfx T k o = tt_wr T o then 1 else 0)) (nI (o + 1)) w1 := by
      intro n' b o x1 kx hb ho
      have hq := pfx_le T k o
      have hr := it_wr I ho
      rw [m_X8_upToDate_L24, if_neg (by rw [z_le (by omega) (by omega)]; omega)]
      by_cases c : b = 0
      · rw [if_pos (by rw [c]; rfl), m_X8_upToDate_j58, m_X8_upToDate_j59, nI_add, if_neg (by omega)]
      · rw [if_neg (by rw [z_eq0 (by omega)]; exact c), if_pos (ib_n (by omega) (by omega)), nI_add, if_pos (ib_n (by omega) (by omega))]
        by_cases g : pfx T k o = tt_wr T o
        · rw [if_neg (by rw [nI_clamp (by omega), nI_clamp (by omega), a2 o ho, rr_wr h1 ho, g]; exact fun q => q rfl), m_X8_upToDate_j59, nI_add, if_pos ⟨by omega, g⟩]
        · rw [if_pos (by rw [nI_clamp (by omega), nI_clamp (by omega), a2 o ho, rr_wr h1 ho, z_eq (by omega) (by omega)]; exact g), m_X8_upToDate_j58, m_X8_upToDate_j59, nI_add, if_neg (fun q => g q.2)]
    have lb : ∀ {c : Prop} [Decidable c], (if c then 1 else 0) ≤ 1 := by intro c _; split <;> omega
    have e4 : ∀ (b : Nat) (x1 : Int32) (kx : Int32 → Wd → Option (Int32 × Wd)), m_X8_upToDate_L24 x1 (nI k) kx (N + 1) (nI b) (nI 4) w1 = kx (nI b) w1 := fun b x1 kx => by rw [m_X8_upToDate_L24, if_pos (by decide)]
    have run : ∀ (x1 : Int32) (kx : Int32 → Wd → Option (Int32 × Wd)), m_X8_upToDate_L24 x1 (nI k) kx (N + 5) (nI 1) (nI 0) w1 = kx (nI (if sum4 (pfx T k) = sum4 (tt_wr T) then 1 else 0)) w1 := by
      intro x1 kx
      rw [st (N + 4) 1 0 x1 kx (by omega) (by omega), st (N + 3) _ 1 x1 kx lb (by omega), st (N + 2) _ 2 x1 kx lb (by omega), st (N + 1) _ 3 x1 kx lb (by omega), e4]
      have p0 := hpw 0 (by omega)
      have p1 := hpw 1 (by omega)
      have p2 := hpw 2 (by omega)
      have p3 := hpw 3 (by omega)
      rw [all4]
      by_cases c : sum4 (pfx T k) = sum4 (tt_wr T)
      · have c' := c
        unfold sum4 at c'
        rw [if_pos c, if_pos ⟨by omega, by omega, by omega, by omega⟩]
      · rw [if_neg c, if_neg]
        rintro ⟨c0, c1, c2, c3⟩
        apply c
        unfold sum4
        rw [c0, c1, c2, c3]
    rw [m_X8_upToDate_L4, if_pos (ib0 (by omega)), if_neg (by rw [nI_clamp (by omega), rr_nu h (by omega), z_le (by omega) (by omega)]; omega), a1, b_b, hN, run]
    by_cases c : sum4 (pfx T k) = sum4 (tt_wr T)
    · rw [if_pos (by simpa using c)] at b1
      rw [if_pos c, if_neg (by decide), m_X8_upToDate_j76, lt_eq, nI_add, nI_add]; exact b1
    · rw [if_neg (by simpa using c), Nat.add_zero] at b1
      rw [if_neg c, if_pos (by decide), m_X8_upToDate_j76, lt_eq, nI_add, nI_add, Nat.add_zero]; exact b1
theorem g_utd (h : FR S w) : ∃ w', m_X8_upToDate w = some (nI (utd S.1), w') ∧ FR S w' := by
  have hnp := it_np h.2.1.1.B
  have hF := FUb
  obtain ⟨w', a1, a2⟩ := r_utd_L4 h.2.1.1 (tt_nu S.1 0) FU 0 w (by omega) (by omega) h.1
  exact ⟨w', a1, fr_q h (fun k k5 _ => a2 k k5)⟩
theorem g_app (h : FR S w) (x : Int32) : ∃ w', m_X8_appendCharacter x w = some ((o_app S x).1, w') ∧ FR (o_app S x).2 w' := by
  obtain ⟨h1, h2, h3, t1, t2, t3, t4⟩ := id h
  rw [m_X8_appendCharacter, r_in (by omega) (by omega), b_b]
  unfold o_app
  by_cases c : dn x ≤ 255
  · have ex := dn_lt (Nat.lt_succ_of_le c) (by omega)
    rw [if_pos (show 0 ≤ dn x ∧ dn x ≤ 255 from ⟨Nat.zero_le _, c⟩), if_pos (by decide), if_pos c, t1]
    by_cases d : S.2.2.length < 100
    · have g1 : (S.2.2 ++ [dn x]).length = S.2.2.length + 1 := by simp
      have e0 : wset w 4 S.2.2.length x 0 5 = nI S.2.2.length := by rw [wset_ne (by omega)]; exact t1
      rw [if_pos (by rw [z_eq (by omega) (by omega)]; omega), if_pos (ib_n d (by omega)), nI_clamp (by omega), lt_eq, e0, nI_add, lt_eq, if_pos d]
      refine ⟨_, by rw [wset_same, upd_s], by rw [wset_ne (by omega), wset_ne (by omega)]; exact h1, h2, hist_w h3 (by rw [wset_ne (by omega), wset_ne (by omega)]) (by rw [wset_same, upd_n (by omega), wset_ne (by omega)]), by rw [wset_same, upd_s, g1], ?_, by show (S.2.2 ++ [dn x]).length ≤ 100; omega, fun y hy => ?_⟩
      · rw [wset_ne (by omega), wset_same, g1]
        have := rl_app t2 (dn x)
        rw [← ex] at this
        exact this
      · rcases List.mem_append.mp hy with z | z
        · exact t4 y z
        · rw [List.mem_singleton.mp z]; exact c
    · rw [if_neg (by rw [z_eq (by omega) (by omega)]; omega), if_neg d]
      exact ⟨w, rfl, h⟩
  · rw [if_neg (show ¬ (0 ≤ dn x ∧ dn x ≤ 255) from fun q => c q.2), if_neg (by decide), if_neg c]
    exact ⟨w, rfl, h⟩
theorem g_clear (h : FR S w) : ∃ w', m_X8_clearText w = some ((o_clear S).1, w') ∧ FR (o_clear S).2 w' := by
  obtain ⟨h1, h2, h3, t1, t2, t3, t4⟩ := id h
  rw [m_X8_clearText, lt_eq, lt_eq, t1]
  exact ⟨_, rfl, by rw [wset_ne (by omega)]; exact h1, h2, hist_w h3 (by rw [wset_ne (by omega)]) (by rw [wset_same, upd_n (by omega)]), by rw [wset_same, upd_s]; rfl, ⟨rfl, fun k x hx => by simp [o_clear] at hx⟩, Nat.zero_le _, fun x hx => by cases hx⟩
end RREAD
