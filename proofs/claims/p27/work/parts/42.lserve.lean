/-! ===== the law's serve ===== -/
def RepO (q : Nat) (w : Wd) (P : Nat → Nat) : Prop := ∀ o, o < 4 → w q o = nI (P o)
theorem repO_set {q : Nat} {w : Wd} {P : Nat → Nat} (hP : RepO q w P) (o c : Nat) : RepO q (wset w q o (nI c)) (va_up P o c) := by
  intro j hj
  rw [wset_same]
  by_cases e : j = o
  · subst e; rw [upd_s, up_s]
  · rw [upd_n e, up_n e]; exact hP j hj
theorem va_same {f : Nat → Nat} {o : Nat} : va_up f o (f o) = f := by
  funext j
  by_cases e : j = o
  · subst e; rw [up_s]
  · rw [up_n e]
theorem stL_va (T : TT) (p u : Nat) (P : Nat → Nat) : stL T p u P = va_up P (u / 12) (stL T p u P (u / 12)) := by
  unfold stL
  by_cases c : okL T p P u = true
  · rw [if_pos c]; exact va_same.symm
  · rw [if_neg c, up_s]
section LSERVE
variable {T : TT} {w0 : Wd} {p q : Nat}
theorem l_sv_step (hR : RepL T w0) (S : Sml T) (hp : p < 8) (q1 : q ≠ 491) (q2 : q ≠ 492) {w : Wd} (hf : ∀ k, k ≠ q → w k = w0 k) {P : Nat → Nat} (hP : RepO q w P) (hb : ∀ o, o < 4 → P o ≤ 12) {u : Nat} (hu : u < 48) (kx : Int32 → Wd → Option Wd) (n c : Nat) : m_L_serve_L37 491 492 q (nI p) kx (n + 1) (nI c) (nI u) w = m_L_serve_L37 491 492 q (nI p) kx n (nI (c + if okL T p P u = true then 1 else 0)) (nI (u + 1)) (wset w q (u / 12) (nI (stL T p u P (u / 12)))) := by
  obtain ⟨o, ho⟩ : ∃ o, o = u / 12 := ⟨_, rfl⟩
  obtain ⟨v, hv⟩ : ∃ v, v = u % 12 + 1 := ⟨_, rfl⟩
  have ho4 : o < 4 := by omega
  have hv1 : 1 ≤ v := by omega
  have hv2 : v ≤ 12 := by omega
  have hu2 : u = 12 * o + (v - 1) := by omega
  have hbo := hb o ho4
  have hw : w q (nI o).toNatClampNeg = nI (P o) := by rw [nI_clamp (by omega)]; exact hP o ho4
  have ib4 : ib (nI o) 4 := by rw [z_ib (by omega)]; exact ho4
  have hok : okL T p P u = (decide (P o < v) || (tt_kn T (4 * p + o) v && hasC T P o v)) := by unfold okL; rw [← ho, ← hv]
  have hst : stL T p u P o = if okL T p P u = true then P o else v - 1 := by
    unfold stL
    rw [← ho]
    split
    · rfl
    · rw [up_s]; omega
  rw [m_L_serve_L37, if_neg (by rw [z_le (by omega) (by omega)]; omega), lt_eq, lt_eq, pk_rem (by omega) (by omega) (by omega), pk_div (by omega) (by omega) (by omega), nI_add, ← ho, ← hv, if_pos ib4, hst]
  generalize m_L_serve_L37 491 492 q (nI p) kx n = kc
  have J1 : okL T p P u = true → m_L_serve_j146 491 492 q (nI p) (nI c) (nI u) (nI o) (nI v) w kc kx = kc (nI (c + if okL T p P u = true then 1 else 0)) (nI (u + 1)) (wset w q o (nI (if okL T p P u = true then P o else v - 1))) := by
    intro k
    rw [if_pos k, if_pos k, m_L_serve_j146, m_L_serve_j151, if_neg (by decide), if_pos ib4, hw, m_L_serve_j172, if_pos ib4, lt_eq, if_neg (by decide), m_L_serve_j185, lt_eq, nI_add, nI_add, nI_clamp (by omega)]
  have J0 : ¬ okL T p P u = true → m_L_serve_j150 491 492 q (nI p) (nI c) (nI u) (nI o) (nI v) w kc kx = kc (nI (c + if okL T p P u = true then 1 else 0)) (nI (u + 1)) (wset w q o (nI (if okL T p P u = true then P o else v - 1))) := by
    intro k
    rw [if_neg k, if_neg k, m_L_serve_j150, m_L_serve_j151, if_pos (by decide), m_L_serve_j172, if_pos ib4, lt_eq, if_pos (by decide), m_L_serve_j185, lt_eq, nI_add, nI_add, nI_clamp (by omega), z_sub (by omega)]
  by_cases c1 : P o < v
  · rw [if_pos (by rw [hw, z_lt (by omega) (by omega)]; exact c1)]
    exact J1 (by rw [hok, decide_eq_true c1]; rfl)
  rw [if_neg (by rw [hw, z_lt (by omega) (by omega)]; exact c1)]
  rw [decide_eq_false c1, Bool.false_or] at hok
  have e32 : nI 4 * nI p + nI o = nI (4 * p + o) := by rw [pk_mul, nI_add]
  have hk : w 491 (nI (4 * p + o)).toNatClampNeg = nI (2 * bits (tt_kn T (4 * p + o)) 12) := by rw [nI_clamp (by omega), hf _ (Ne.symm q1)]; exact rl_kn hR (by omega)
  rw [e32, if_pos (by rw [z_ib (by omega)]; omega), hk]
  by_cases c2 : tt_kn T (4 * p + o) v = true
  · rw [if_neg (by rw [z_kb _ hv1 hv2]; exact fun k => k c2)]
    have hwr := (S.2.1 p o v hp ho4 c2).2
    have hcw : w 492 (nI u).toNatClampNeg = nI (cpk T (96 * o + 4 * (v - 1))) := by
      rw [nI_clamp (by omega), hf _ (Ne.symm q2), hu2]
      exact rl_ca hR ho4 hv1 hwr
    have a0 := S.2.2 (96 * o + 4 * (v - 1)) (by omega)
    have a1 := S.2.2 (96 * o + 4 * (v - 1) + 1) (by omega)
    have a2 := S.2.2 (96 * o + 4 * (v - 1) + 2) (by omega)
    have a3 := S.2.2 (96 * o + 4 * (v - 1) + 3) (by omega)
    have ib48 : ib (nI u) 48 := by rw [z_ib (by omega)]; exact hu
    have hq0 : w q (nI 0).toNatClampNeg = nI (P 0) := by rw [nI_clamp (by omega)]; exact hP 0 (by omega)
    have hq1 : w q (nI 1).toNatClampNeg = nI (P 1) := by rw [nI_clamp (by omega)]; exact hP 1 (by omega)
    have hq2 : w q (nI 2).toNatClampNeg = nI (P 2) := by rw [nI_clamp (by omega)]; exact hP 2 (by omega)
    have hq3 : w q (nI 3).toNatClampNeg = nI (P 3) := by rw [nI_clamp (by omega)]; exact hP 3 (by omega)
    have b0 := hb 0 (by omega)
    have b1 := hb 1 (by omega)
    have b2 := hb 2 (by omega)
    have b3 := hb 3 (by omega)
    rw [c2, Bool.true_and] at hok
    rw [if_pos ib48, if_pos (by decide), hq0, hcw, z_c0 (by omega) (by omega) (by omega) (by omega)]
    by_cases d0 : P 0 < tt_ca T (96 * o + 4 * (v - 1))
    · rw [if_pos (by rw [z_lt (by omega) (by omega)]; exact d0)]
      exact J0 (by rw [hok, hasC, decide_eq_true_eq]; omega)
    rw [if_neg (by rw [z_lt (by omega) (by omega)]; exact d0), if_pos ib48, if_pos (by decide), hq1, z_c1 (by omega) (by omega) (by omega) (by omega)]
    by_cases d1 : P 1 < tt_ca T (96 * o + 4 * (v - 1) + 1)
    · rw [if_pos (by rw [z_lt (by omega) (by omega)]; exact d1)]
      exact J0 (by rw [hok, hasC, decide_eq_true_eq]; omega)
    rw [if_neg (by rw [z_lt (by omega) (by omega)]; exact d1), if_pos ib48, if_pos (by decide), hq2, z_c2 (by omega) (by omega) (by omega) (by omega)]
    by_cases d2 : P 2 < tt_ca T (96 * o + 4 * (v - 1) + 2)
    · rw [if_pos (by rw [z_lt (by omega) (by omega)]; exact d2)]
      exact J0 (by rw [hok, hasC, decide_eq_true_eq]; omega)
    rw [if_neg (by rw [z_lt (by omega) (by omega)]; exact d2), if_pos ib48, if_pos (by decide), hq3, z_c3 (by omega) (by omega) (by omega) (by omega)]
    by_cases d3 : P 3 < tt_ca T (96 * o + 4 * (v - 1) + 3)
    · rw [if_pos (by rw [z_lt (by omega) (by omega)]; exact d3)]
      exact J0 (by rw [hok, hasC, decide_eq_true_eq]; omega)
    rw [if_neg (by rw [z_lt (by omega) (by omega)]; exact d3)]
    exact J1 (by rw [hok, hasC, decide_eq_true_eq]; omega)
  · rw [if_pos (by rw [z_kb _ hv1 hv2]; exact c2)]
    exact J0 (by rw [hok]; simp [c2])
theorem l_sv_pass (hR : RepL T w0) (S : Sml T) (hp : p < 8) (q1 : q ≠ 491) (q2 : q ≠ 492) (kx : Int32 → Wd → Option Wd) : ∀ (d u n c : Nat) (P : Nat → Nat) (w : Wd), u + d = 48 → d < n → (∀ k, k ≠ q → w k = w0 k) → RepO q w P → (∀ o, o < 4 → P o ≤ 12) → ∃ w', m_L_serve_L37 491 492 q (nI p) kx n (nI c) (nI u) w = kx (nI (lps T p d u P c).1) w' ∧ RepO q w' (lps T p d u P c).2 ∧ ∀ k, k ≠ q → w' k = w0 k := by
  intro d
  induction d with
  | zero =>
    intro u n c P w hu hn hf hP hb
    obtain ⟨n, rfl⟩ : ∃ m, n = m + 1 := ⟨n - 1, by omega⟩
    exact ⟨w, by rw [m_L_serve_L37, if_pos (by rw [z_le (by omega) (by omega)]; omega)]; rfl, hP, hf⟩
  | succ d ih =>
    intro u n c P w hu hn hf hP hb
    obtain ⟨n, rfl⟩ : ∃ m, n = m + 1 := ⟨n - 1, by omega⟩
    rw [l_sv_step hR S hp q1 q2 hf hP hb (by omega) kx n c]
    have hP1 := repO_set hP (u / 12) (stL T p u P (u / 12))
    rw [← stL_va] at hP1
    exact ih (u + 1) n _ (stL T p u P) _ (by omega) (by omega) (fun k hk => (wset_ne hk).trans (hf k hk)) hP1 (fun o ho => Nat.le_trans (stL_le T p u P o) (hb o ho))
theorem l_sv_L24 (hR : RepL T w0) (S : Sml T) (hp : p < 8) (q1 : q ≠ 491) (q2 : q ≠ 492) : ∀ (m n c : Nat) (P : Nat → Nat) (w : Wd), sum4 P < m → m < n → c < 48 → (∀ k, k ≠ q → w k = w0 k) → RepO q w P → (∀ o, o < 4 → P o ≤ 12) → (∀ o, o < 4 → pfx T p o ≤ P o) → ∃ w', m_L_serve_L24 491 492 q (nI p) n (nI c) w = some w' ∧ RepO q w' (pfx T p) ∧ ∀ k, k ≠ q → w' k = w0 k := by
  intro m
  induction m with
  | zero => intro n c P w h; omega
  | succ m ih =>
    intro n c P w hs hn hc hf hP hb hpf
    obtain ⟨n, rfl⟩ : ∃ m, n = m + 2 := ⟨n - 2, by omega⟩
    have hF := FUb
    rw [m_L_serve_L24, if_neg (by rw [z_le (by omega) (by omega)]; omega)]
    obtain ⟨w1, a1, a2, a3⟩ := l_sv_pass hR S hp q1 q2 (fun x4_1 w2 => m_L_serve_L24 491 492 q (nI p) (n + 1) x4_1 w2) 48 0 FU 0 P w (by omega) (by omega) hf hP hb
    rw [show m_L_serve_L37 491 492 q (nI p) (fun x4_1 w2 => m_L_serve_L24 491 492 q (nI p) (n + 1) x4_1 w2) FU (nI 0) (nI 0) w = _ from a1]
    obtain ⟨b1, b2, b3, b4⟩ := lps_le T p 48 0 P 0
    have b5 := lps_clo (pfx_clo T p) 48 0 P 0 (by omega) hpf
    by_cases e : (lps T p 48 0 P 0).1 = 48
    · rw [e]
      obtain ⟨g1, g2⟩ := b3 (by omega)
      rw [g1] at a2
      have g3 := okL_pfx hpf hb (fun u hu => g2 u (by omega) (by omega))
      refine ⟨w1, ?_, fun o ho => by rw [← g3 o ho]; exact a2 o ho, a3⟩
      rw [m_L_serve_L24, if_pos (by decide)]
    · have l := b4 (by omega) (by omega)
      exact ih (n + 1) _ _ w1 (by omega) (by omega) (by omega) a3 a2 (fun o ho => Nat.le_trans (b1 o) (hb o ho)) b5
theorem l_serve (hR : RepL T w0) (S : Sml T) (hp : p < 8) (q1 : q ≠ 491) (q2 : q ≠ 492) : ∃ w', m_L_serve 491 492 q (nI p) w0 = some w' ∧ RepO q w' (pfx T p) ∧ ∀ k, k ≠ q → w' k = w0 k := by
  obtain ⟨N, hN, hb⟩ := FU5
  have st : ∀ (kx : Wd → Option Wd) (u : Wd) (o n : Nat), o < 4 → m_L_serve_L6 491 492 q (nI p) (nI 0) kx (n + 1) (nI o) u = m_L_serve_L6 491 492 q (nI p) (nI 0) kx n (nI (o + 1)) (wset u q o (nI 12)) := by
    intro kx u o n ho
    rw [m_L_serve_L6, if_neg (by rw [z_le (by omega) (by omega)]; omega), if_pos (by rw [z_ib (by omega)]; exact ho), lt_eq, nI_add, nI_clamp (by omega)]
  obtain ⟨w1, e1⟩ : ∃ w1, w1 = wset (wset (wset (wset w0 q 0 (nI 12)) q 1 (nI 12)) q 2 (nI 12)) q 3 (nI 12) := ⟨_, rfl⟩
  have f1 : ∀ k, k ≠ q → w1 k = w0 k := fun k hk => by rw [e1, wset_ne hk, wset_ne hk, wset_ne hk, wset_ne hk]
  have P1 : RepO q w1 (fun _ => 12) := by
    intro o ho
    rw [e1, wset_same]
    rcases (show o = 0 ∨ o = 1 ∨ o = 2 ∨ o = 3 by omega) with rfl | rfl | rfl | rfl
    · rw [upd_n (by omega), wset_same, upd_n (by omega), wset_same, upd_n (by omega), wset_same, upd_s]
    · rw [upd_n (by omega), wset_same, upd_n (by omega), wset_same, upd_s]
    · rw [upd_n (by omega), wset_same, upd_s]
    · rw [upd_s]
  obtain ⟨w', a1, a2, a3⟩ := l_sv_L24 hR S hp q1 q2 49 FU 0 (fun _ => 12) w1 (show 12 + 12 + 12 + 12 < 49 by decide) (by have := FUb; omega) (by omega) f1 P1 (fun _ _ => Nat.le_refl _) (fun o ho => sml_12 S hp ho)
  have key : ∀ (n : Nat) (kx : Wd → Option Wd), m_L_serve_L6 491 492 q (nI p) (nI 0) kx (n + 5) (nI 0) w0 = kx w1 := by
    intro n kx
    rw [st kx _ 0 (n + 4) (by omega), st kx _ 1 (n + 3) (by omega), st kx _ 2 (n + 2) (by omega), st kx _ 3 (n + 1) (by omega), e1, m_L_serve_L6, if_pos (by decide)]
  have k := key N (fun w1 => m_L_serve_L24 491 492 q (nI p) FU (nI 0) w1)
  rw [← hN] at k
  refine ⟨w', ?_, a2, a3⟩
  rw [m_L_serve]
  exact k.trans a1
end LSERVE
