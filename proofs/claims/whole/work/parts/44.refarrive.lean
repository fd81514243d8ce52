/-! ===== the reference: arriving ===== -/
def frR (fr : Nat) : Int32 := if fr < 8 then nI fr else (-9)
theorem frR_eq {c fr : Nat} (hc : c < 8) : (nI c = frR fr) = (c = fr) := by
  unfold frR
  by_cases h : fr < 8
  · rw [if_pos h, z_eq (by omega) (by omega)]
  · rw [if_neg h]
    apply propext
    constructor
    · intro q
      have := nI_pos (show c < 2 ^ 31 by omega)
      rw [q] at this
      exact absurd (by decide) this
    · intro q; omega
section RARRIVE
variable {T : TT} {w : Wd}
theorem r_puts (h : RepR T (w 1)) {c d u : Nat} (hc : c < 8) (hd : d < 2) : ∃ w', m_X8_puts (nI c) (nI d) (nI u) w = some w' ∧ RepR (enq T (8 + 8 * d + c) u) (w' 1) ∧ FrR w w' := by
  have hi : 8 ≤ 8 + 8 * d + c ∧ 8 + 8 * d + c < 24 := by omega
  have eb : qb (8 + 8 * d + c) = 1215 + 26 * c + 13 * d := by
    unfold qb
    rcases (show d = 0 ∨ d = 1 by omega) with rfl | rfl
    · rw [if_pos (by omega)]; omega
    · rw [if_neg (by omega)]; omega
  generalize 8 + 8 * d + c = i at hi eb ⊢
  have hl := rr_q h hi.1 hi.2
  have h12 := rr_ql h hi.1 hi.2
  have hge := qb_ge (i := i)
  have hlt := qb_lt hi.2 hi.1
  have ei : ((nI 1215) + ((nI 26) * nI c)) + ((nI 13) * nI d) = nI (qb i) := by rw [pk_mul, pk_mul, nI_add, nI_add, eb]
  rw [m_X8_puts, m_X8_queueOf, ei, b_b]
  have rq := fun (r' : Nat → Int32) (l : List Nat) => rr_set_q (r' := r') (l := l) h hi.1 hi.2
  generalize qb i = q at *
  have hib : ib (nI q) 1423 := ib_n (by omega) (by omega)
  have hcl : (nI q).toNatClampNeg = q := nI_clamp (by omega)
  have esz : w 1 q = nI (tt_li T i).length := hl.1
  rw [if_pos hib]
  unfold enq
  by_cases g : (tt_li T i).length < 12
  · have e1 : wset w 1 (nI q).toNatClampNeg ((w 1 (nI q).toNatClampNeg) + (nI 1)) = wset w 1 q (nI ((tt_li T i).length + 1)) := by rw [hcl, esz, nI_add]
    rw [if_pos (by rw [hcl, esz, z_eq (by omega) (by omega)]; omega), if_pos hib, if_pos hib, e1, lt_eq, if_pos hib, if_pos g]
    have e2 : nI q + (wset w 1 q (nI ((tt_li T i).length + 1)) 1 (nI q).toNatClampNeg) = nI (q + ((tt_li T i).length + 1)) := by rw [hcl, w1_set, upd_s, nI_add]
    rw [e2, if_pos (ib_n (by omega) (by omega)), nI_clamp (by omega), lt_eq]
    refine ⟨_, rfl, ?_, (FrR.s (Or.inl rfl)).tr (FrR.s (Or.inl rfl))⟩
    rw [w1_set, w1_set]
    refine rq _ _ ?_ (by rw [List.length_append]; show _ + 1 ≤ 12; omega) (fun j hj => by rw [upd_n (by omega), upd_n (by omega)])
    refine rl_cong (rl_app hl u) ?_ (fun k hk => ?_)
    · rw [upd_n (by omega), upd_s]
    · rw [List.length_append, List.length_singleton] at hk
      by_cases c : k = (tt_li T i).length
      · subst c
        rw [show q + 1 + (tt_li T i).length = q + ((tt_li T i).length + 1) by omega, upd_s, upd_s]
      · rw [upd_n (by omega), upd_n (by omega), upd_n c]
  · rw [if_neg (by rw [hcl, esz, z_eq (by omega) (by omega)]; omega), if_pos (ib_n (by omega) (by omega)), if_pos (ib_n (by omega) (by omega)), nI_clamp (by omega), rr_nu h (by omega), nI_add, lt_eq, if_neg g]
    exact ⟨_, rfl, by rw [w1_set]; exact rr_set_nu h (by omega) _, FrR.s (Or.inl rfl)⟩
theorem two_or (a b : Nat) : (2 * a) ||| (2 * b) = 2 * (a ||| b) := by
  apply Nat.eq_of_testBit_eq
  intro i
  rw [Nat.testBit_or]
  cases i with
  | zero =>
    have z : ∀ n : Nat, (2 * n).testBit 0 = false := fun n => by
      rw [Nat.testBit_zero]; simp
    rw [z, z, z]; rfl
  | succ i => rw [tb_two, tb_two, tb_two, Nat.testBit_or]
theorem z_or2 (f : Nat → Bool) {v : Nat} (h1 : 1 ≤ v) (hv : v ≤ 24) : nI (2 * bits f 24) ||| (nI 1 <<< (nI v &&& 31)) = nI (2 * bits (va_up f v true) 24) := by
  obtain ⟨k, rfl⟩ : ∃ k, v = k + 1 := ⟨v - 1, by omega⟩
  have := bits_or f h1 hv
  rw [Nat.add_sub_cancel] at this
  rw [z_shl1 (by omega), fa_or, show 2 ^ (k + 1) = 2 * 2 ^ k by rw [Nat.pow_succ, Nat.mul_comm], two_or, this]
theorem rr_addKn (h : RepR T (w 1)) {p o v : Nat} (hp : p < 8) (ho : o < 4) (h1 : 1 ≤ v) (hv : v ≤ 24) : RepR (addKn T p o v) (wset w 1 (407 + (4 * p + o)) (nI (2 * bits (va_up (tt_kn T (4 * p + o)) v true) 24)) 1) := by
  rw [w1_set]
  exact rr_set_kn h (by omega) _
theorem r_l_L59 {p fr u : Nat} (hp : p < 8) : ∀ (d n c : Nat) (T : TT) (w : Wd), c + d = tt_nu T 0 → d < n → 1 ≤ c → RepR T (w 1) → InvB T → ∃ w', m_X8_learns_L59 (nI p) (nI u) (frR fr) n (nI c) w = some w' ∧ RepR (pdown p fr u d c T) (w' 1) ∧ FrR w w' := by
  intro d
  induction d with
  | zero =>
    intro n c T w hc hn h1 h I
    obtain ⟨n, rfl⟩ : ∃ m, n = m + 1 := ⟨n - 1, by omega⟩
    have hnp := it_np I
    refine ⟨w, ?_, h, FrR.rf⟩
    rw [m_X8_learns_L59, if_pos (ib_n (by omega) (by omega)), if_pos (by rw [nI_clamp (by omega), rr_nu h (by omega), z_le (by omega) (by omega)]; omega)]
  | succ d ih =>
    intro n c T w hc hn h1 h I
    obtain ⟨n, rfl⟩ : ∃ m, n = m + 1 := ⟨n - 1, by omega⟩
    have hnp := it_np I
    have hpa := I.2.2.2.1 c (by omega)
    rw [m_X8_learns_L59, if_pos (ib_n (by omega) (by omega)), if_neg (by rw [nI_clamp (by omega), rr_nu h (by omega), z_le (by omega) (by omega)]; omega), nI_add, if_pos (ib_n (by omega) (by omega)), pdown]
    by_cases a : tt_pa T c = p
    · rw [if_neg (by rw [nI_clamp (by omega), rr_pa h h1 (by omega), a]; exact fun q => q rfl)]
      by_cases b : c = fr
      · have e : pdStep T p fr u c = T := if_neg (fun q => q.1 b)
        rw [if_pos (by rw [frR_eq (by omega)]; exact b), m_X8_learns_j98, nI_add, e]
        exact ih n (c + 1) T w (by omega) (by omega) (by omega) h I
      · have e : pdStep T p fr u c = enq T (16 + c) u := if_pos ⟨b, a⟩
        obtain ⟨w1, q1, q2, q3⟩ := r_puts h (c := c) (d := 1) (u := u) (by omega) (by omega)
        change RepR (enq T (16 + c) u) (w1 1) at q2
        obtain ⟨w', f1, f2, f3⟩ := ih n (c + 1) (enq T (16 + c) u) w1 (by rw [enq_nu (by decide)]; omega) (by omega) (by omega) q2 (enq_B I)
        rw [if_neg (by rw [frR_eq (by omega)]; exact b), q1, b_b, m_X8_learns_j98, nI_add, e]
        exact ⟨w', f1, f2, q3.tr f3⟩
    · have e : pdStep T p fr u c = T := if_neg (fun q => a q.2)
      rw [if_pos (by rw [nI_clamp (by omega), rr_pa h h1 (by omega), z_eq (by omega) (by omega)]; exact a), m_X8_learns_j98, nI_add, e]
      exact ih n (c + 1) T w (by omega) (by omega) (by omega) h I
theorem r_learns (h : RepR T (w 1)) (I : InvT T) {p fr o v u : Nat} (hp : p < tt_nu T 0) (e : u = 100 * o + v) (ho : o < 4) (h1 : 1 ≤ v) (hv : v ≤ 24) (hk : tt_kn T (4 * p + o) v = false) : ∃ w', m_X8_learns (nI p) (nI u) (frR fr) w = some w' ∧ RepR (learn T p fr u) (w' 1) ∧ FrR w w' := by
  have IB := I.B
  have hnp := it_np IB
  have hp8 : p < 8 := by omega
  have eo : u / 100 = o := by omega
  have ev : u % 100 = v := by omega
  have ed : nI u / nI 100 = nI o := by rw [pk_div (by omega) (by omega) (by omega), eo]
  have er : nI u - nI u / nI 100 * nI 100 = nI v := by rw [ed, pk_mul, z_sub (by omega), show u - o * 100 = v by omega]
  have ei : ((nI 407) + ((nI 4) * nI p)) + nI o = nI (407 + (4 * p + o)) := by
    rw [pk_mul, nI_add, nI_add]; congr 1; omega
  have e1 : wset w 1 (nI (407 + (4 * p + o))).toNatClampNeg ((w 1 (nI (407 + (4 * p + o))).toNatClampNeg) ||| ((nI 1) <<< (nI v &&& 31))) = wset w 1 (407 + (4 * p + o)) (nI (2 * bits (va_up (tt_kn T (4 * p + o)) v true) 24)) := by
    rw [nI_clamp (by omega), rr_kn h (by omega), z_or2 _ h1 hv]
  have h2 := rr_addKn h hp8 ho h1 hv
  obtain ⟨w3, a1, a2, a3⟩ := r_keeps h2 (show InvB (addKn T p o v) from IB) (p := p) (u := u) hp (by
    have := it_room I hp8 ho h1 hv hk
    have : lroom (2 * p) ≤ 96 := by
      by_cases c : p = 0
      · subst c; decide
      · rw [lrc p hp8 (by omega)]; omega
    show (tt_li T p).length < 96
    omega) (it_val I (by omega)) ⟨o, v, e, ho, h1, hv⟩
  have B2 : InvB (keep (addKn T p o v) p u) := by
    unfold keep
    split
    · exact IB
    · exact ⟨IB.1, IB.2.1, IB.2.2.1, IB.2.2.2⟩
  have kfx := keep_fx (addKn T p o v) hp8 u
  have hnu : tt_nu (keep (addKn T p o v) p u) 0 = tt_nu T 0 := kfx.2.2.2.2.1
  have hF := FUb
  have frw : FrR w w3 := (FrR.s (Or.inl rfl)).tr a3
  have tail : ∀ (T2 : TT) (w4 : Wd), RepR T2 (w4 1) → InvB T2 → tt_nu T2 0 = tt_nu T 0 → FrR w w4 → ∃ w', m_X8_learns_j56 (nI p) (nI u) (frR fr) w4 = some w' ∧ RepR (pdown p fr u (tt_nu T 0 - 1) 1 T2) (w' 1) ∧ FrR w w' := by
    intro T2 w4 q1 q2 q3 q4
    obtain ⟨w', f1, f2, f3⟩ := r_l_L59 (fr := fr) (u := u) hp8 (tt_nu T 0 - 1) FU 1 T2 w4 (by omega) (by omega) (by omega) q1 q2
    exact ⟨w', f1, f2, q4.tr f3⟩
  have el : learn T p fr u = pdown p fr u (tt_nu T 0 - 1) 1 (if p ≠ 0 ∧ tt_pa T p ≠ fr then enq (keep (addKn T p o v) p u) (8 + p) u else keep (addKn T p o v) p u) := by
    unfold learn passOn
    rw [eo, ev, hnu, show tt_pa (keep (addKn T p o v) p u) = tt_pa T from kfx.1]
  rw [m_X8_learns, er, ed, ei, if_pos (ib_n (by omega) (by omega)), if_pos (ib_n (by omega) (by omega)), e1, lt_eq, a1, b_b, el]
  by_cases c : p = 0
  · rw [if_pos (by rw [z_le0 (by omega)]; exact c), if_neg (fun q => q.1 c)]
    exact tail _ _ a2 B2 hnu frw
  · rw [if_neg (by rw [z_le0 (by omega)]; exact c), nI_add, if_pos (ib_n (by omega) (by omega))]
    have epa : w3 1 (7 + p) = nI (tt_pa T p) := by
      have := rr_pa a2 (p := p) (by omega) hp8
      rwa [show tt_pa (keep (addKn T p o v) p u) = tt_pa T from kfx.1] at this
    have hpa := IB.2.2.2.1 p hp8
    by_cases d : tt_pa T p = fr
    · rw [if_pos (by rw [nI_clamp (by omega), epa]; exact ((frR_eq hpa).mpr d).symm), if_neg (fun q => q.2 d)]
      exact tail _ _ a2 B2 hnu frw
    · obtain ⟨w4, b1, b2, b3⟩ := r_puts a2 (c := p) (d := 0) (u := u) hp8 (by omega)
      change RepR (enq (keep (addKn T p o v) p u) (8 + p) u) (w4 1) at b2
      rw [if_neg (by rw [nI_clamp (by omega), epa]; exact fun q => d ((frR_eq hpa).mp q.symm)), b1, b_b, if_pos ⟨c, d⟩]
      exact tail _ _ b2 (enq_B B2) (by rw [enq_nu (by decide)]; exact hnu) (frw.tr b3)
/-- what arrives tells: 1 learned, 0 known, -1 refused -/
def toldR (t : Nat) : Int32 := if t = 0 then nI 0 else if t = 2 then -1 else nI 1
theorem r_arrives (h : RepR T (w 1)) (I : InvT T) {p fr u : Nat} (hp : p < tt_nu T 0) (hfr : fr < 8) (hu : upOk (tt_wr T) u) : ∃ w', m_X8_arrives (nI p) (nI u) (nI fr) w = some (toldR (arrTold T p fr u), w') ∧ RepR (arrive T p fr u) (w' 1) ∧ FrR w w' := by
  have IB := I.B
  have hnp := it_np IB
  have hrl := IB.2.1
  have hp8 : p < 8 := by omega
  obtain ⟨o, v, e, ho, h1, hv⟩ := upOk_val hu I.2.2.2.2.2.1
  have eo : u / 100 = o := by omega
  have ev : u % 100 = v := by omega
  have ed : nI u / nI 100 = nI o := by rw [pk_div (by omega) (by omega) (by omega), eo]
  have er : nI u - nI u / nI 100 * nI 100 = nI v := by rw [ed, pk_mul, z_sub (by omega), show u - o * 100 = v by omega]
  have ei : ((nI 407) + ((nI 4) * nI p)) + nI o = nI (407 + (4 * p + o)) := by
    rw [pk_mul, nI_add, nI_add]; congr 1; omega
  have hib : ib (nI (407 + (4 * p + o))) 1423 := ib_n (by omega) (by omega)
  have hcl : (nI (407 + (4 * p + o))).toNatClampNeg = 407 + (4 * p + o) := nI_clamp (by omega)
  unfold arrive arrTold
  rw [eo, ev]
  rw [m_X8_arrives, er, ed, lt_eq, lt_eq, r_knows h hp8 ho h1 hv, b_b, ei]
  by_cases k : tt_kn T (4 * p + o) v = true
  · rw [if_pos k, if_neg (by decide), if_pos k, if_pos rfl]
    exact ⟨w, rfl, h, FrR.rf⟩
  have kf : tt_kn T (4 * p + o) v = false := by simpa using k
  have e1 : wset w 1 (nI (407 + (4 * p + o))).toNatClampNeg ((w 1 (nI (407 + (4 * p + o))).toNatClampNeg) ||| ((nI 1) <<< (nI v &&& 31))) = wset w 1 (407 + (4 * p + o)) (nI (2 * bits (va_up (tt_kn T (4 * p + o)) v true) 24)) := by
    rw [hcl, rr_kn h (by omega), z_or2 _ h1 hv]
  have e6 : w 1 (nI (407 + (4 * p + o))).toNatClampNeg = nI (2 * bits (tt_kn T (4 * p + o)) 24) := by rw [hcl, rr_kn h (by omega)]
  have h2 := rr_addKn h hp8 ho h1 hv
  rw [if_neg k, if_pos (by decide), if_neg k, if_pos hib, e1, e6, lt_eq, if_pos hib, if_pos hib, lt_eq]
  obtain ⟨w2, e2⟩ : ∃ w2, w2 = wset w 1 (407 + (4 * p + o)) (nI (2 * bits (va_up (tt_kn T (4 * p + o)) v true) 24)) := ⟨_, rfl⟩
  rw [← e2] at h2 ⊢
  -- put back
  have back : wset w2 1 (nI (407 + (4 * p + o))).toNatClampNeg (nI (2 * bits (tt_kn T (4 * p + o)) 24)) = w := by
    rw [hcl, e2]
    funext a j
    by_cases c : a = 1
    · subst c
      rw [w1_set, w1_set]
      by_cases g : j = 407 + (4 * p + o)
      · subst g; rw [upd_s, rr_kn h (by omega)]
      · rw [upd_n g, upd_n g]
    · rw [wset_ne c, wset_ne c]
  have j88 : ∀ s0 : Nat, s0 ≤ 1 → m_X8_arrives_j88 (nI p) (nI u) (nI fr) (nI o) (nI (2 * bits (tt_kn T (4 * p + o)) 24)) (nI s0) w2 = if s0 = 0 then (m_X8_learns (nI p) (nI u) (nI fr) w).bind fun o3 => some (nI 1, o3) else some (-1, wset w 1 3 (nI (tt_nu T 3 + 1))) := by
    intro s0 hs
    rw [m_X8_arrives_j88, ei, if_pos hib, back, lt_eq]
    by_cases c : s0 = 0
    · rw [if_pos (by rw [c]; rfl), if_pos c]
    · rw [if_neg (by rw [z_eq0 (by omega)]; exact c), if_neg c, if_pos (ib_n (by omega) (by omega)), if_pos (ib_n (by omega) (by omega)), nI_clamp (by omega), rr_nu h (by omega), nI_add, lt_eq]
  obtain ⟨wl, l1, l2, l3⟩ := r_learns h I (fr := fr) hp e ho h1 hv kf
  rw [show frR fr = nI fr from if_pos hfr] at l1
  have yes : ∃ w', m_X8_arrives_j88 (nI p) (nI u) (nI fr) (nI o) (nI (2 * bits (tt_kn T (4 * p + o)) 24)) (nI 0) w2 = some (toldR 1, w') ∧ RepR (learn T p fr u) (w' 1) ∧ FrR w w' := by
    rw [j88 0 (by omega), if_pos rfl, l1, b_b]
    exact ⟨wl, rfl, l2, l3⟩
  by_cases c : p = 0
  · have n2 : ¬ (p ≠ 0 ∧ fr < 8 ∧ tt_nu T 1 < rgs T p o v) := fun q => q.1 c
    rw [if_pos (by rw [z_le0 (by omega)]; exact c), if_neg n2, if_neg (by decide), if_neg (by decide), m_X8_arrives_j87]
    exact yes
  have hk25 := it_k25 I
  have ar : m_X8_allRanges (nI p) w2 = some (nI (rgs T p o v)) := by
    have := r_allRanges h2 hp8 (fun e he => by
      show va_up (tt_kn T) (4 * p + o) (va_up (tt_kn T (4 * p + o)) v true) (4 * p + e) 25 = false
      by_cases q : e = o
      · subst q; rw [up_s, up_n (by omega)]; exact hk25 _ (by omega)
      · rw [up_n (by omega)]; exact hk25 _ (by omega))
    rw [this]
    have es : ∀ e, e < 4 → gc (tt_kn (addKn T p o v) (4 * p + e)) = rgW T p o v e := by
      intro e he
      unfold rgW
      show gc (va_up (tt_kn T) (4 * p + o) (va_up (tt_kn T (4 * p + o)) v true) (4 * p + e)) = _
      by_cases q : e = o
      · subst q; rw [up_s, if_pos rfl]
      · rw [up_n (by omega), if_neg q]
    unfold rgs sum4
    refine congrArg some (congrArg nI ?_)
    show gc (tt_kn (addKn T p o v) (4 * p + 0)) + gc (tt_kn (addKn T p o v) (4 * p + 1)) + gc (tt_kn (addKn T p o v) (4 * p + 2)) + gc (tt_kn (addKn T p o v) (4 * p + 3)) = _
    rw [es 0 (by omega), es 1 (by omega), es 2 (by omega), es 3 (by omega)]
  have hr : rgs T p o v < 2 ^ 31 := by
    have := rgW_le T p o v 0; have := rgW_le T p o v 1; have := rgW_le T p o v 2; have := rgW_le T p o v 3
    unfold rgs; omega
  rw [if_neg (by rw [z_le0 (by omega)]; exact c), ar, b_b, if_pos (ib_n (by omega) (by omega))]
  by_cases g : rgs T p o v ≤ tt_nu T 1
  · have n2 : ¬ (p ≠ 0 ∧ fr < 8 ∧ tt_nu T 1 < rgs T p o v) := fun q => by have := q.2.2; omega
    rw [if_pos (by rw [nI_clamp (by omega), rr_nu h2 (by omega)]; show _ ≤ nI (tt_nu T 1); rw [z_le hr (by omega)]; exact g), if_neg n2, if_neg (by decide), if_neg (by decide), m_X8_arrives_j87]
    exact yes
  · have y2 : p ≠ 0 ∧ fr < 8 ∧ tt_nu T 1 < rgs T p o v := ⟨c, hfr, by omega⟩
    rw [if_neg (by rw [nI_clamp (by omega), rr_nu h2 (by omega)]; show ¬ _ ≤ nI (tt_nu T 1); rw [z_le hr (by omega)]; exact g), if_pos y2, if_neg (by decide), if_pos rfl, j88 1 (by omega), if_neg (by omega)]
    exact ⟨_, rfl, by rw [w1_set]; exact rr_set_nu h (by omega) _, FrR.s (Or.inl rfl)⟩
theorem r_t_L29 {q : Nat} (hq : q + 13 ≤ 1423) (x4 : Int32) {L : Nat} (hL : L + 1 ≤ 12) : ∀ (d n j : Nat) (w : Wd), j + d = L → d < n → w 1 q = nI L → ∃ w', m_X8_takes_L29 (nI q) x4 n (nI (j + 1)) w = some (x4, w') ∧ (∀ i, i < 12 → w' 1 (q + 1 + i) = if j ≤ i ∧ i < L then w 1 (q + 1 + (i + 1)) else w 1 (q + 1 + i)) ∧ (∀ i, (i < q + 1 ∨ q + 13 ≤ i) → w' 1 i = w 1 i) ∧ ∀ k, k ≠ 1 → w' k = w k := by
  have hib : ib (nI q) 1423 := ib_n (by omega) (by omega)
  have hcl : (nI q).toNatClampNeg = q := nI_clamp (by omega)
  intro d
  induction d with
  | zero =>
    intro n j w hj hn e
    obtain ⟨n, rfl⟩ : ∃ m, n = m + 1 := ⟨n - 1, by omega⟩
    refine ⟨w, ?_, fun i hi => by rw [if_neg (by omega)], fun _ _ => rfl, fun _ _ => rfl⟩
    rw [m_X8_takes_L29, if_pos hib, if_pos (by rw [hcl, e, z_lt (by omega) (by omega)]; omega)]
  | succ d ih =>
    intro n j w hj hn e
    obtain ⟨n, rfl⟩ : ∃ m, n = m + 1 := ⟨n - 1, by omega⟩
    obtain ⟨w1, ew⟩ : ∃ w1, w1 = wset w 1 (q + 1 + j) (w 1 (q + 1 + (j + 1))) := ⟨_, rfl⟩
    have s1 : w1 1 = upd (w 1) (q + 1 + j) (w 1 (q + 1 + (j + 1))) := by rw [ew, w1_set]
    obtain ⟨w', a, b, c, f⟩ := ih n (j + 1) w1 (by omega) (by omega) (by rw [s1, upd_n (by omega)]; exact e)
    have e1 : wset w 1 (nI (q + (j + 1))).toNatClampNeg (w 1 (nI (q + (j + 1) + 1)).toNatClampNeg) = w1 := by
      rw [nI_clamp (by omega), nI_clamp (by omega), ew, show q + (j + 1) = q + 1 + j by omega, show q + 1 + j + 1 = q + 1 + (j + 1) by omega]
    refine ⟨w', ?_, fun i hi => ?_, fun i hi => ?_, fun k hk => by rw [f k hk, ew, wset_ne hk]⟩
    · rw [m_X8_takes_L29, if_pos hib, if_neg (by rw [hcl, e, z_lt (by omega) (by omega)]; omega), nI_add, nI_add, if_pos (ib_n (by omega) (by omega)), if_pos (ib_n (by omega) (by omega)), e1, lt_eq, nI_add]
      exact a
    · rw [b i hi]
      by_cases g : j + 1 ≤ i ∧ i < L
      · rw [if_pos g, if_pos (by omega), s1, upd_n (by omega)]
      · rw [if_neg g]
        by_cases k : i = j
        · subst k
          rw [if_pos (by omega), s1, upd_s]
        · rw [if_neg (by omega), s1, upd_n (by omega)]
    · rw [c i hi, s1, upd_n (by omega)]
theorem r_takes (h : RepR T (w 1)) {c d : Nat} (hc : c < 8) (hd : d < 2) (hne : (tt_li T (8 + 8 * d + c)).length ≠ 0) : ∃ w', m_X8_takes (nI c) (nI d) w = some (nI ((tt_li T (8 + 8 * d + c)).getD 0 0), w') ∧ RepR (ts_li T (va_up (tt_li T) (8 + 8 * d + c) ((tt_li T (8 + 8 * d + c)).drop 1))) (w' 1) ∧ FrR w w' := by
  have hi : 8 ≤ 8 + 8 * d + c ∧ 8 + 8 * d + c < 24 := by omega
  have eb : qb (8 + 8 * d + c) = 1215 + 26 * c + 13 * d := by
    unfold qb
    rcases (show d = 0 ∨ d = 1 by omega) with rfl | rfl
    · rw [if_pos (by omega)]; omega
    · rw [if_neg (by omega)]; omega
  generalize 8 + 8 * d + c = i at hi eb hne ⊢
  have hl := rr_q h hi.1 hi.2
  have h12 := rr_ql h hi.1 hi.2
  have hlt := qb_lt hi.2 hi.1
  have ei : ((nI 1215) + ((nI 26) * nI c)) + ((nI 13) * nI d) = nI (qb i) := by rw [pk_mul, pk_mul, nI_add, nI_add, eb]
  rw [m_X8_takes, m_X8_queueOf, ei, b_b]
  have rq := fun (r' : Nat → Int32) (l : List Nat) => rr_set_q (r' := r') (l := l) h hi.1 hi.2
  generalize qb i = q at *
  have hib : ib (nI q) 1423 := ib_n (by omega) (by omega)
  have hcl : (nI q).toNatClampNeg = q := nI_clamp (by omega)
  have esz : w 1 q = nI (tt_li T i).length := hl.1
  have e0 : w 1 (q + 1) = nI ((tt_li T i).getD 0 0) := by
    rw [List.getD_eq_getElem?_getD, List.getElem?_eq_getElem (by omega)]
    exact rl_at hl (k := 0) (by omega)
  obtain ⟨w1, ew⟩ : ∃ w1, w1 = wset w 1 q (nI ((tt_li T i).length - 1)) := ⟨_, rfl⟩
  have s1 : w1 1 = upd (w 1) q (nI ((tt_li T i).length - 1)) := by rw [ew, w1_set]
  have e1 : wset w 1 (nI q).toNatClampNeg ((w 1 (nI q).toNatClampNeg) - (nI 1)) = w1 := by rw [hcl, esz, z_sub (by omega), ew]
  have hF := FUb
  obtain ⟨w', a, b, c', f⟩ := r_t_L29 hlt (nI ((tt_li T i).getD 0 0)) (L := (tt_li T i).length - 1) (by omega) ((tt_li T i).length - 1) FU 0 w1 (by omega) (by omega) (by rw [s1, upd_s])
  refine ⟨w', ?_, ?_, (show FrR w w1 by rw [ew]; exact FrR.s (Or.inl rfl)).tr (FrR.of1 f)⟩
  · rw [nI_add, if_pos (ib_n (by omega) (by omega)), nI_clamp (show q + 1 < 2 ^ 31 by omega), e0, lt_eq, if_pos hib, if_pos hib, e1, lt_eq]
    exact a
  · refine rq _ _ ⟨?_, fun k x hx => ?_⟩ (by rw [List.length_drop]; omega) (fun j hj => by rw [c' j (by omega), s1, upd_n (by omega)])
    · rw [c' q (by omega), s1, upd_s, List.length_drop]
    · rw [List.getElem?_drop] at hx
      have hk : 1 + k < (tt_li T i).length := (List.getElem?_eq_some_iff.mp hx).1
      show w' 1 (q + 1 + k) = nI x
      rw [b k (by omega), if_pos (by omega), s1, upd_n (by omega)]
      have := hl.2 (1 + k) x hx
      rw [show k + 1 = 1 + k by omega]
      exact this
end RARRIVE
