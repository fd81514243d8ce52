/-! ===== the law's arrive ===== -/
/-- a small run's invariant -/
def LI (T : TT) : Prop := InvQ T ∧ tt_nu T 0 ≤ 5 ∧ ∀ o, o < 4 → tt_wr T o ≤ 12
theorem inv_len {T : TT} (I : InvT T) : Len T := fun i h1 h24 => by
  by_cases c : 8 ≤ i
  · exact it_q12 I i c h24
  · exact it_c12 I h1 (by omega)
theorem up_val12 {wr : Nat → Nat} {u : Nat} (h : upOk wr u) (hw : ∀ o, o < 4 → wr o ≤ 12) : val12 u := by
  obtain ⟨o, v, e, h1, h2, h3⟩ := h
  exact ⟨o, v, e, h1, h2, Nat.le_trans h3 (hw o h1)⟩
theorem li_val12 {T : TT} (I : InvT T) (hw : ∀ o, o < 4 → tt_wr T o ≤ 12) {i : Nat} (hi : i < 24) : ∀ x ∈ tt_li T i, val12 x := fun x hx => up_val12 (I.2.2.2.2.2.2.2.2.2.1 i x hi hx) hw
theorem inv_sml {T : TT} (I : InvT T) (hw : ∀ o, o < 4 → tt_wr T o ≤ 12) : Sml T := ⟨hw, fun p o v hp ho hk => I.2.2.2.2.2.2.2.2.1 p o v hp ho hk, I.2.2.2.2.2.2.1⟩
theorem ct2 {g : Nat → Bool} (h : ∀ k, 12 ≤ k → k < 24 → g k = false) : fb_ct g 24 ≤ 12 := by
  have e : fb_ct g 24 = fb_ct g 12 + fb_ct (fun k => g (12 + k)) 12 := fb_ct_split g 12 12
  have z : fb_ct (fun k => g (12 + k)) 12 = 0 := fb_ct_zero.mpr (fun k hk => h (12 + k) (by omega) (by omega))
  have := fb_ct_le g 12
  omega
theorem ct4 {g : Nat → Bool} (h : ∀ o, o < 4 → fb_ct (fun k => g (24 * o + k)) 24 ≤ 12) : fb_ct g 96 ≤ 48 := by
  have s1 : fb_ct g 96 = fb_ct g 24 + fb_ct (fun k => g (24 + k)) 72 := fb_ct_split g 24 72
  have s2 : fb_ct (fun k => g (24 + k)) 72 = fb_ct (fun k => g (24 + k)) 24 + fb_ct (fun k => g (24 + (24 + k))) 48 := fb_ct_split (fun k => g (24 + k)) 24 48
  have s3 : fb_ct (fun k => g (24 + (24 + k))) 48 = fb_ct (fun k => g (24 + (24 + k))) 24 + fb_ct (fun k => g (24 + (24 + (24 + k)))) 24 := fb_ct_split (fun k => g (24 + (24 + k))) 24 24
  have c0 : fb_ct g 24 = fb_ct (fun k => g (24 * 0 + k)) 24 := fb_ct_cong (fun k _ => by
    show g k = g (24 * 0 + k)
    rw [show 24 * 0 + k = k by omega])
  have c1 : fb_ct (fun k => g (24 + k)) 24 = fb_ct (fun k => g (24 * 1 + k)) 24 := rfl
  have c2 : fb_ct (fun k => g (24 + (24 + k))) 24 = fb_ct (fun k => g (24 * 2 + k)) 24 := fb_ct_cong (fun k _ => by
    show g (24 + (24 + k)) = g (24 * 2 + k)
    rw [show 24 + (24 + k) = 24 * 2 + k by omega])
  have c3 : fb_ct (fun k => g (24 + (24 + (24 + k)))) 24 = fb_ct (fun k => g (24 * 3 + k)) 24 := fb_ct_cong (fun k _ => by
    show g (24 + (24 + (24 + k))) = g (24 * 3 + k)
    rw [show 24 + (24 + (24 + k)) = 24 * 3 + k by omega])
  have h0 := h 0 (by omega)
  have h1 := h 1 (by omega)
  have h2 := h 2 (by omega)
  have h3 := h 3 (by omega)
  omega
theorem root48 {T : TT} (I : InvT T) (hw : ∀ o, o < 4 → tt_wr T o ≤ 12) : (tt_li T 0).length ≤ 48 := by
  rw [it_c0 I]
  refine ct4 (fun o ho => ct2 (fun k h1 h2 => ?_))
  show tt_kn T ((24 * o + k) / 24) ((24 * o + k) % 24 + 1) = false
  rw [show (24 * o + k) / 24 = 4 * 0 + o by omega, show (24 * o + k) % 24 = k by omega]
  cases hc : tt_kn T (4 * 0 + o) (k + 1) with
  | false => rfl
  | true =>
    have := (I.2.2.2.2.2.2.2.2.1 0 o _ (by omega) ho hc).2
    have := hw o ho
    omega
theorem LI.K {T : TT} (I : LI T) : InvT T := I.1.1
theorem LI.of {T T' : TT} (I : LI T) (I' : InvT T') (f : Fx T T') : LI T' := ⟨I.1.of I' f, by rw [f.2.2.2.2.1]; exact I.2.1, fun o ho => by rw [f.2.2.1]; exact I.2.2 o ho⟩
theorem li_arrive {T : TT} (I : LI T) {p fr u : Nat} (hp : p < 8) (hu : upOk (tt_wr T) u) : LI (arrive T p fr u) := I.of (arrive_inv I.K hp hu) (arrive_fx T hp fr u)
theorem it_paB {T : TT} (I : InvT T) {p : Nat} (hp : p < 8) : tt_pa T p < 8 := I.B.2.2.2.1 p hp
def tl (t : Nat) : Int32 := if t = 0 then nI 0 else if t = 2 then (-1 : Int32) else nI 1
section LARR
variable {T : TT} {w : Wd}
theorem l_pdown {p fr u N : Nat} (hp : p < 8) (hN : 497 ≤ N) : ∀ (d n c : Nat) (T : TT) (w : Wd), c + d = tt_nu T 0 → tt_nu T 0 ≤ 5 → d < n → 1 ≤ c → RepL T w → InvT T → upOk (tt_wr T) u → ∃ w', m_L_arrive_L128 N (nI p) (nI (lu u)) (frC fr) n (nI c) w = some (nI 1, w') ∧ RepL (pdown p fr u d c T) w' ∧ LFr N w w' := by
  intro d
  induction d with
  | zero =>
    intro n c T w hc h5 hn h1 h I hu
    obtain ⟨n, rfl⟩ : ∃ m, n = m + 1 := ⟨n - 1, by omega⟩
    refine ⟨w, ?_, h, LFr.rf⟩
    rw [m_L_arrive_L128, if_pos (by decide), show (nI 0).toNatClampNeg = 0 from nI_clamp (by omega), rl_nu h (by omega), if_pos (by rw [z_le (by omega) (by omega)]; omega)]
  | succ d ih =>
    intro n c T w hc h5 hn h1 h I hu
    obtain ⟨n, rfl⟩ : ∃ m, n = m + 1 := ⟨n - 1, by omega⟩
    have hpa := it_paB I (show c < 8 by omega)
    have hstep : ∃ w1, RepL (pdStep T p fr u c) w1 ∧ LFr N w w1 ∧ m_L_arrive_L128 N (nI p) (nI (lu u)) (frC fr) (n + 1) (nI c) w = m_L_arrive_L128 N (nI p) (nI (lu u)) (frC fr) n (nI (c + 1)) w1 := by
      have hh : m_L_arrive_L128 N (nI p) (nI (lu u)) (frC fr) (n + 1) (nI c) w = (if ¬ nI (tt_pa T c) = nI p then m_L_arrive_j165 N (nI p) (nI (lu u)) (frC fr) (nI c) w (m_L_arrive_L128 N (nI p) (nI (lu u)) (frC fr) n) else if nI c = frC fr then m_L_arrive_j165 N (nI p) (nI (lu u)) (frC fr) (nI c) w (m_L_arrive_L128 N (nI p) (nI (lu u)) (frC fr) n) else (m_L_put 490 494 (nI c) (nI (lu u)) w).bind fun o3 => m_L_arrive_j165 N (nI p) (nI (lu u)) (frC fr) (nI c) o3 (m_L_arrive_L128 N (nI p) (nI (lu u)) (frC fr) n)) := by
        rw [m_L_arrive_L128, if_pos (by decide), show (nI 0).toNatClampNeg = 0 from nI_clamp (by omega), rl_nu h (by omega), if_neg (by rw [z_le (by omega) (by omega)]; omega), nI_add, if_pos (by rw [z_ib (by omega)]; omega), nI_clamp (by omega), rl_pa h (by omega)]
      rw [hh]
      by_cases k1 : tt_pa T c = p
      · rw [if_neg (by rw [k1]; exact fun q => q rfl)]
        by_cases k2 : c = fr
        · have e : pdStep T p fr u c = T := by unfold pdStep; rw [if_neg (fun q => q.1 k2)]
          rw [if_pos (by rw [frC_eq (by omega)]; exact k2), m_L_arrive_j165, nI_add, e]
          exact ⟨w, h, LFr.rf, rfl⟩
        · have e : pdStep T p fr u c = enq T (16 + c) u := by unfold pdStep; rw [if_pos ⟨k2, k1⟩]
          obtain ⟨w1, a1, a2, a3⟩ := l_put h (inv_len I) N (r := 494) (d := 16) (Or.inr ⟨rfl, rfl⟩) h1 (by omega) u
          rw [if_neg (by rw [frC_eq (by omega)]; exact k2), a1, b_b, m_L_arrive_j165, nI_add, e]
          exact ⟨w1, a2, a3, rfl⟩
      · have e : pdStep T p fr u c = T := by unfold pdStep; rw [if_neg (fun q => k1 q.2)]
        rw [if_pos (by rw [z_eq (by omega) (by omega)]; exact k1), m_L_arrive_j165, nI_add, e]
        exact ⟨w, h, LFr.rf, rfl⟩
    obtain ⟨w1, b1, b2, b3⟩ := hstep
    have hsq : SameQ u T (pdStep T p fr u c) := by
      unfold pdStep
      split
      · exact enq_same T (by omega)
      · exact SameQ.rf
    have I1 := hsq.inv I hu
    have e0 : tt_nu (pdStep T p fr u c) 0 = tt_nu T 0 := hsq.2.2.2.2.2.1 0 (by omega)
    obtain ⟨w', c1, c2, c3⟩ := ih n (c + 1) (pdStep T p fr u c) w1 (by omega) (by omega) (by omega) (by omega) b1 I1 (by rw [hsq.2.2.1]; exact hu)
    exact ⟨w', b3.trans c1, c2, b2.tr c3⟩
theorem rgN_add {p o v : Nat} : rgN (addKn T p o v) p = rgs T p o v := by
  have e : ∀ e, gc (tt_kn (addKn T p o v) (4 * p + e)) = rgW T p o v e := by
    intro e
    unfold rgW
    congr 1
    show va_up (tt_kn T) (4 * p + o) (va_up (tt_kn T (4 * p + o)) v true) (4 * p + e) = _
    by_cases c : e = o
    · subst c; rw [up_s, if_pos rfl]
    · rw [up_n (by omega), if_neg c]
  unfold rgN rgs
  rw [e 0, e 1, e 2, e 3]
theorem wset_back {k j : Nat} {x : Int32} : wset (wset w k j x) k j (w k j) = w := by
  funext a
  by_cases c : a = k
  · subst c
    rw [wset_same, wset_same]
    funext i
    by_cases d : i = j
    · subst d; rw [upd_s]
    · rw [upd_n d, upd_n d]
  · rw [wset_ne c, wset_ne c]
theorem l_arrive (h : RepL T w) (I : LI T) {p fr u N : Nat} (hN : 497 ≤ N) (hp : p < tt_nu T 0) (hu : upOk (tt_wr T) u) : ∃ w', m_L_arrive N (nI p) (nI (lu u)) (frC fr) w = some (tl (arrTold T p fr u), w') ∧ RepL (arrive T p fr u) w' ∧ LFr N w w' := by
  have hF := FUb
  have K := I.K
  have h5 := I.2.1
  have hv := up_val12 hu I.2.2
  have hlu := val12_lu hv
  obtain ⟨o, ho⟩ : ∃ o, o = u / 100 := ⟨_, rfl⟩
  obtain ⟨v, hvv⟩ : ∃ v, v = u % 100 := ⟨_, rfl⟩
  rw [← ho, ← hvv] at hlu
  obtain ⟨u1, u2, u3, u4, u5, u6, u7⟩ := hlu
  have hvw : v ≤ tt_wr T o := by
    obtain ⟨o', v', e, f1, f2, f3⟩ := hu
    have := K.2.2.2.2.2.1 o' f1
    have e1 : o' = o := by omega
    have e2 : v' = v := by omega
    rw [← e1, ← e2]; exact f3
  have hd : nI (lu u) / nI 16 = nI o := by rw [pk_div (by omega) (by omega) (by omega), u2]
  have hm : nI (lu u) - nI o * nI 16 = nI v := by rw [← hd, pk_rem (by omega) (by omega) (by omega), u3]
  have ib32 : ib (nI (4 * p + o)) 32 := by rw [z_ib (by omega)]; omega
  have hk : w 491 (nI (4 * p + o)).toNatClampNeg = nI (2 * bits (tt_kn T (4 * p + o)) 12) := by rw [nI_clamp (by omega)]; exact rl_kn h (by omega)
  have ek : arrTold T p fr u = if tt_kn T (4 * p + o) v then 0 else if p ≠ 0 ∧ fr < 8 ∧ tt_nu T 1 < rgs T p o v then 2 else 1 := by unfold arrTold; rw [← ho, ← hvv]
  obtain ⟨w5, e5⟩ : ∃ w5, w5 = wset w 491 (4 * p + o) (nI (2 * bits (tt_kn T (4 * p + o)) 12) ||| (nI 1 <<< (nI v &&& 31))) := ⟨_, rfl⟩
  have c491 : (nI (4 * p + o)).toNatClampNeg = 4 * p + o := nI_clamp (by omega)
  have start : m_L_arrive N (nI p) (nI (lu u)) (frC fr) w = (if ¬ ((nI (2 * bits (tt_kn T (4 * p + o)) 12) >>> (nI v &&& 31)) &&& (nI 1)) = (nI 1) then (if frC fr < 0 then m_L_arrive_j85 N (nI p) (nI (lu u)) (frC fr) w5 else if nI p ≤ 0 then m_L_arrive_j85 N (nI p) (nI (lu u)) (frC fr) w5 else (m_L_ranges 491 (nI p) w5).bind fun o6 => if ib (nI 1) 24 then if o6 ≤ (w5 490 (nI 1).toNatClampNeg) then m_L_arrive_j85 N (nI p) (nI (lu u)) (frC fr) w5 else lt (wset w5 491 (4 * p + o) (nI (2 * bits (tt_kn T (4 * p + o)) 12))) fun w9 => if ib (nI 3) 24 then if ib (nI 3) 24 then lt (wset w9 490 (nI 3).toNatClampNeg ((w9 490 (nI 3).toNatClampNeg) + (nI 1))) fun w12 => some ((-1 : Int32), w12) else none else none else none) else some (nI 0, w)) := by
    rw [m_L_arrive, hd, pk_mul, nI_add, lt_eq, if_pos ib32, hk, lt_eq, hm]
    simp only [if_pos ib32, c491, lt_eq, ← e5]
  rw [start]
  by_cases c : tt_kn T (4 * p + o) v = true
  · have et : arrTold T p fr u = 0 := by rw [ek, if_pos c]
    have ea : arrive T p fr u = T := by unfold arrive; rw [if_pos et]
    rw [if_neg (by rw [z_kb _ u5 u6]; exact fun q => q c), et, ea]
    exact ⟨w, rfl, h, LFr.rf⟩
  have hkf : tt_kn T (4 * p + o) v = false := by simpa using c
  rw [if_pos (by rw [z_kb _ u5 u6]; exact c)]
  have h5w : RepL (addKn T p o v) w5 := by rw [e5]; exact l_add h (by omega) u4 u5 u6
  have fr5 : LFr N w w5 := by rw [e5]; exact LFr.set (by omega) (Or.inl (by omega)) (by omega)
  have S1 : Sml (addKn T p o v) := by
    have S := inv_sml K I.2.2
    refine ⟨S.1, fun p' o' v' hp' ho' hk' => ?_, S.2.2⟩
    change va_up (tt_kn T) (4 * p + o) (va_up (tt_kn T (4 * p + o)) v true) (4 * p' + o') v' = true at hk'
    by_cases e : 4 * p' + o' = 4 * p + o
    · have e1 : o' = o := by omega
      rw [e, up_s] at hk'
      by_cases e2 : v' = v
      · rw [e2, e1]; exact ⟨u5, hvw⟩
      · rw [up_n e2, ← e] at hk'; exact S.2.1 p' o' v' hp' ho' hk'
    · rw [up_n e] at hk'; exact S.2.1 p' o' v' hp' ho' hk'
  have L1 : Len (addKn T p o v) := fun i a b => inv_len (T := T) K i a b
  have hroot := root48 K I.2.2
  have hval := li_val12 K I.2.2 (i := p) (by omega)
  -- learning
  have J85 : ¬ arrTold T p fr u = 2 → ∃ w', m_L_arrive_j85 N (nI p) (nI (lu u)) (frC fr) w5 = some (tl (arrTold T p fr u), w') ∧ RepL (arrive T p fr u) w' ∧ LFr N w w' := by
    intro n2
    have n0 : ¬ arrTold T p fr u = 0 := by rw [ek, if_neg c]; split <;> omega
    have et : tl (arrTold T p fr u) = nI 1 := by unfold tl; rw [if_neg n0, if_neg n2]
    have ea : arrive T p fr u = passOn (keep (addKn T p o v) p u) p fr u := by unfold arrive; rw [if_neg n0, if_neg n2]; unfold learn; rw [← ho, ← hvv]
    obtain ⟨w1, a1, a2, a3⟩ := l_keep (N := N) h5w S1 L1 (p := p) (u := u) (by omega) hN K.2.2.1.2 hroot hval hv
    have I2 : InvT (keep (addKn T p o v) p u) := keep_inv K (by omega) (show u = 100 * o + v by omega) u4 u5 hvw hkf
    have fx : Fx (addKn T p o v) (keep (addKn T p o v) p u) := keep_fx _ (by omega) u
    obtain ⟨T2, eT2⟩ : ∃ T2, T2 = keep (addKn T p o v) p u := ⟨_, rfl⟩
    rw [← eT2] at a2 I2 fx ea
    have f0 : tt_nu T2 0 = tt_nu T 0 := fx.2.2.2.2.1
    have fpa : tt_pa T2 = tt_pa T := fx.1
    have fwr : tt_wr T2 = tt_wr T := fx.2.2.1
    have hu2 : upOk (tt_wr T2) u := by rw [fwr]; exact hu
    rw [m_L_arrive_j85, a1, b_b, ea, et]
    have fin : ∀ (T3 : TT) (w3 : Wd), SameQ u T2 T3 → RepL T3 w3 → LFr N w1 w3 → ∃ w', m_L_arrive_j125 N (nI p) (nI (lu u)) (frC fr) w3 = some (nI 1, w') ∧ RepL (pdown p fr u (tt_nu T2 0 - 1) 1 T3) w' ∧ LFr N w w' := by
      intro T3 w3 q h3 fr3
      have e0 : tt_nu T3 0 = tt_nu T2 0 := q.2.2.2.2.2.1 0 (by omega)
      have np := K.1.1
      obtain ⟨w', b1, b2, b3⟩ := l_pdown (p := p) (fr := fr) (u := u) (N := N) (by omega) hN (tt_nu T2 0 - 1) FU 1 T3 w3 (by omega) (by omega) (by omega) (by omega) h3 (q.inv I2 hu2) (by rw [q.2.2.1]; exact hu2)
      rw [m_L_arrive_j125]
      exact ⟨w', b1, b2, ((fr5.tr a3).tr fr3).tr b3⟩
    unfold passOn
    by_cases z : p = 0
    · rw [if_pos (by rw [z]; decide), if_neg (fun q => q.1 z)]
      exact fin T2 w1 SameQ.rf a2 LFr.rf
    · rw [if_neg (by rw [z_le0 (by omega)]; exact z), nI_add, if_pos (by rw [z_ib (by omega)]; omega), nI_clamp (by omega), rl_pa a2 (by omega)]
      have hfe := frC_eq (c := tt_pa T2 p) (fr := fr) (by rw [fpa]; exact it_paB K (by omega))
      by_cases k : tt_pa T2 p = fr
      · rw [if_pos (by rw [hfe]; exact k), if_neg (fun q => q.2 k)]
        exact fin T2 w1 SameQ.rf a2 LFr.rf
      · obtain ⟨w3, g1, g2, g3⟩ := l_put a2 (inv_len I2) N (r := 493) (d := 8) (Or.inl ⟨rfl, rfl⟩) (c := p) (by omega) (by omega) u
        rw [if_neg (by rw [hfe]; exact k), if_pos ⟨z, k⟩, g1, b_b]
        exact fin _ w3 (enq_same T2 (by omega)) g2 g3
  have hlt0 : (frC fr < 0) = (8 ≤ fr) := by
    unfold frC
    by_cases q : fr < 8
    · rw [if_pos q]; exact propext ⟨fun e => absurd e (nI_pos (by omega)), fun e => by omega⟩
    · rw [if_neg q]; exact propext ⟨fun _ => by omega, fun _ => by decide⟩
  by_cases k1 : 8 ≤ fr
  · rw [if_pos (by rw [hlt0]; exact k1)]
    exact J85 (by rw [ek, if_neg c, if_neg (by omega)]; omega)
  rw [if_neg (by rw [hlt0]; exact k1)]
  by_cases k2 : p = 0
  · rw [if_pos (by rw [k2]; decide)]
    exact J85 (by rw [ek, if_neg c, if_neg (by omega)]; omega)
  rw [if_neg (by rw [z_le0 (by omega)]; exact k2)]
  have hrg := l_ranges h5w (p := p) (by omega) (fun o' v' ho' hv' => by
    cases hc : tt_kn (addKn T p o v) (4 * p + o') v' with
    | false => rfl
    | true =>
      have := (S1.2.1 p o' v' (by omega) ho' hc).2
      have := S1.1 o' ho'
      omega)
  have hnu1 : w5 490 (nI 1).toNatClampNeg = nI (tt_nu T 1) := by rw [nI_clamp (by omega)]; exact rl_nu h5w (j := 1) (by omega)
  have hrl := K.2.1
  have b0 := rgW_le T p o v 0
  have b1 := rgW_le T p o v 1
  have b2 := rgW_le T p o v 2
  have b3 := rgW_le T p o v 3
  have hrb : rgs T p o v ≤ 96 := by unfold rgs; omega
  rw [hrg, b_b, rgN_add, if_pos (by decide), hnu1]
  by_cases k3 : rgs T p o v ≤ tt_nu T 1
  · rw [if_pos (by rw [z_le (by omega) (by omega)]; exact k3)]
    exact J85 (by rw [ek, if_neg c, if_neg (by omega)]; omega)
  · have et : arrTold T p fr u = 2 := by rw [ek, if_neg c, if_pos ⟨k2, by omega, by omega⟩]
    have ea : arrive T p fr u = ts_nu T (va_up (tt_nu T) 3 (tt_nu T 3 + 1)) := by unfold arrive; rw [if_neg (by omega), if_pos et]
    have eb : wset w5 491 (4 * p + o) (nI (2 * bits (tt_kn T (4 * p + o)) 12)) = w := by
      rw [e5, ← hk, c491]
      exact wset_back
    have n3 : w 490 (nI 3).toNatClampNeg = nI (tt_nu T 3) := by rw [nI_clamp (by omega)]; exact rl_nu h (by omega)
    rw [if_neg (by rw [z_le (by omega) (by omega)]; exact k3), eb, lt_eq, if_pos (by decide), if_pos (by decide), lt_eq, n3, show (nI 3).toNatClampNeg = 3 from nI_clamp (by omega), nI_add, et, ea]
    exact ⟨_, rfl, rl_set_nu h (by omega) _, LFr.set (by omega) (Or.inl (by omega)) (by omega)⟩
end LARR
