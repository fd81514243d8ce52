/-! ===== the reference: missing, read, upToDate, the text ===== -/
def RepW (w : Wd) (N : Nat → Nat) : Prop := ∀ o, o < 4 → w 7 o = nI (N o)
theorem repW_set {w : Wd} {N : Nat → Nat} (hN : RepW w N) (o c : Nat) : RepW (wset w 7 o (nI c)) (va_up N o c) := by
  intro j hj
  rw [wset_same]
  by_cases e : j = o
  · subst e; rw [upd_s, up_s]
  · rw [upd_n e, up_n e]; exact hN j hj
/-- what a step of the search tells: whether it reaches further -/
def ZZ (b : Nat) (N : Nat → Nat) (b' : Nat) (N' : Nat → Nat) : Prop := b' ≤ 1 ∧ (b' = 0 → b = 0 ∧ N' = N) ∧ (b' = 1 → b = 1 ∨ sum4 N < sum4 N') ∧ sum4 N ≤ sum4 N'
theorem ZZ.tr {b b1 b2 : Nat} {N N1 N2 : Nat → Nat} (h : ZZ b N b1 N1) (g : ZZ b1 N1 b2 N2) : ZZ b N b2 N2 := by
  obtain ⟨h1, h2, h3, h4⟩ := h
  obtain ⟨g1, g2, g3, g4⟩ := g
  refine ⟨g1, fun z => ?_, fun z => ?_, by omega⟩
  · obtain ⟨z1, e1⟩ := g2 z
    obtain ⟨z2, e2⟩ := h2 z1
    exact ⟨z2, e1.trans e2⟩
  · rcases g3 z with q | q
    · rcases h3 q with r | r
      · exact Or.inl r
      · right; omega
    · right; omega
theorem sum4_up {N : Nat → Nat} {f x : Nat} (hf : f < 4) (h : N f ≤ x) : sum4 (va_up N f x) + N f = sum4 N + x := by
  unfold sum4
  rcases (show f = 0 ∨ f = 1 ∨ f = 2 ∨ f = 3 by omega) with rfl | rfl | rfl | rfl
  · rw [up_s, up_n (by omega), up_n (by omega), up_n (by omega)]; omega
  · rw [up_s, up_n (by omega), up_n (by omega), up_n (by omega)]; omega
  · rw [up_s, up_n (by omega), up_n (by omega), up_n (by omega)]; omega
  · rw [up_s, up_n (by omega), up_n (by omega), up_n (by omega)]; omega
section RMISS
variable {T : TT} {S : ST} {w : Wd}
theorem rr_7 {w' : Wd} (h : RepR T (w 1)) (hf : ∀ k, k ≠ 7 → w' k = w k) : RepR T (w' 1) := by rw [hf 1 (by omega)]; exact h
theorem r_re_step (h : RepR T (w 1)) (I : InvB T) {N : Nat → Nat} (hN : RepW w N) (hb : ∀ o, N o ≤ 24) {o v f : Nat} (ho : o < 4) (hv : v < 24) (hf : f < 4) (kx : Int32 → Wd → Option (Int32 × Wd)) (n b : Nat) (hbb : b ≤ 1) : ∃ b' w', ZZ b N b' (upC T (96 * o + 4 * v) N f) ∧ m_X8_reaches_L24 (nI o) (nI (v + 1)) kx (n + 1) (nI b) (nI f) w = m_X8_reaches_L24 (nI o) (nI (v + 1)) kx n (nI b') (nI (f + 1)) w' ∧ RepW w' (upC T (96 * o + 4 * v) N f) ∧ (∀ k, k ≠ 7 → w' k = w k) := by
  have hc := it_ca I (j := 96 * o + 4 * v + f) (by omega)
  have hbf := hb f
  have hib : ib (nI f) 4 := ib_n (by omega) (by omega)
  have hcl : (nI f).toNatClampNeg = f := nI_clamp (by omega)
  have ec : m_X8_causeOf (nI o) (nI (v + 1)) (nI f) w = some (nI (tt_ca T (96 * o + 4 * v + f))) := r_causeOf h ho (by omega) (by omega) hf
  have e7 : w 7 (nI f).toNatClampNeg = nI (N f) := by rw [hcl]; exact hN f hf
  have j92 : ∀ (b' x : Nat), m_X8_reaches_j92 (nI b') (nI o) (nI (v + 1)) (nI f) (nI f) (nI x) w (m_X8_reaches_L24 (nI o) (nI (v + 1)) kx n) kx = m_X8_reaches_L24 (nI o) (nI (v + 1)) kx n (nI b') (nI (f + 1)) (wset w 7 f (nI x)) := by
    intro b' x
    rw [m_X8_reaches_j92, if_pos hib, lt_eq, hcl, nI_add]
  have j61 : ∀ b', m_X8_reaches_j61 (nI o) (nI (v + 1)) (nI f) (nI (tt_ca T (96 * o + 4 * v + f))) (nI b') w (m_X8_reaches_L24 (nI o) (nI (v + 1)) kx n) kx = m_X8_reaches_L24 (nI o) (nI (v + 1)) kx n (nI b') (nI (f + 1)) (wset w 7 f (nI (max (N f) (tt_ca T (96 * o + 4 * v + f))))) := by
    intro b'
    rw [m_X8_reaches_j61, if_pos hib]
    by_cases c : tt_ca T (96 * o + 4 * v + f) ≤ N f
    · rw [if_pos (by rw [e7, z_le (by omega) (by omega)]; exact c), if_pos hib, e7, j92, Nat.max_eq_left c]
    · rw [if_neg (by rw [e7, z_le (by omega) (by omega)]; exact c), j92, Nat.max_eq_right (by omega)]
  have hW : RepW (wset w 7 f (nI (max (N f) (tt_ca T (96 * o + 4 * v + f))))) (upC T (96 * o + 4 * v) N f) := repW_set hN _ _
  have hs : sum4 (upC T (96 * o + 4 * v) N f) + N f = sum4 N + max (N f) (tt_ca T (96 * o + 4 * v + f)) := sum4_up hf (Nat.le_max_left _ _)
  have hfr : ∀ k, k ≠ 7 → wset w 7 f (nI (max (N f) (tt_ca T (96 * o + 4 * v + f)))) k = w k := fun k hk => wset_ne hk
  rw [m_X8_reaches_L24, if_neg (by rw [z_le (by omega) (by omega)]; omega), ec, b_b]
  have hmx := Nat.le_max_left (N f) (tt_ca T (96 * o + 4 * v + f))
  by_cases b0 : b = 0
  · by_cases c : tt_ca T (96 * o + 4 * v + f) ≤ N f
    · have e : upC T (96 * o + 4 * v) N f = N := by
        unfold upC
        rw [Nat.max_eq_left c, up_self]
      refine ⟨0, _, ⟨by omega, fun _ => ⟨b0, e⟩, fun z => by omega, by rw [e]; exact Nat.le_refl _⟩, ?_, hW, hfr⟩
      rw [if_neg (by rw [b0]; exact fun q => q rfl), if_pos hib, if_pos (by rw [e7, z_le (by omega) (by omega)]; exact c), j61]
    · refine ⟨1, _, ⟨by omega, fun z => by omega, fun _ => Or.inr ?_, by omega⟩, ?_, hW, hfr⟩
      · rw [Nat.max_eq_right (by omega)] at hs; omega
      · rw [if_neg (by rw [b0]; exact fun q => q rfl), if_pos hib, if_neg (by rw [e7, z_le (by omega) (by omega)]; exact c), m_X8_reaches_j56, j61]
  · refine ⟨1, _, ⟨by omega, fun z => by omega, fun _ => Or.inl (by omega), by omega⟩, ?_, hW, hfr⟩
    rw [if_pos (by rw [z_eq0 (by omega)]; exact b0), m_X8_reaches_j56, j61]
theorem r_re_ver (h : RepR T (w 1)) (I : InvB T) {N : Nat → Nat} (hN : RepW w N) (hb : ∀ o, N o ≤ 24) {o v : Nat} (ho : o < 4) (hv : v < 24) (kx : Int32 → Wd → Option (Int32 × Wd)) (n b : Nat) (hbb : b ≤ 1) : ∃ b' w', ZZ b N b' (upV T (96 * o + 4 * v) N) ∧ m_X8_reaches_L24 (nI o) (nI (v + 1)) kx (n + 5) (nI b) (nI 0) w = kx (nI b') w' ∧ RepW w' (upV T (96 * o + 4 * v) N) ∧ (∀ k, k ≠ 7 → w' k = w k) := by
  have hc := I.2.2.2.2
  obtain ⟨b1, w1, z1, e1, r1, f1⟩ := r_re_step h I hN hb ho hv (f := 0) (by omega) kx (n + 4) b hbb
  have hb1 := upC_le hc hb (B := 96 * o + 4 * v) (f := 0) (by omega)
  obtain ⟨b2, w2, z2, e2, r2, f2⟩ := r_re_step (rr_7 h f1) I r1 hb1 ho hv (f := 1) (by omega) kx (n + 3) b1 z1.1
  have hb2 := upC_le hc hb1 (B := 96 * o + 4 * v) (f := 1) (by omega)
  obtain ⟨b3, w3, z3, e3, r3, f3⟩ := r_re_step (rr_7 (rr_7 h f1) f2) I r2 hb2 ho hv (f := 2) (by omega) kx (n + 2) b2 z2.1
  have hb3 := upC_le hc hb2 (B := 96 * o + 4 * v) (f := 2) (by omega)
  obtain ⟨b4, w4, z4, e4, r4, f4⟩ := r_re_step (rr_7 (rr_7 (rr_7 h f1) f2) f3) I r3 hb3 ho hv (f := 3) (by omega) kx (n + 1) b3 z3.1
  refine ⟨b4, w4, ((z1.tr z2).tr z3).tr z4, ?_, r4, fun k hk => by rw [f4 k hk, f3 k hk, f2 k hk, f1 k hk]⟩
  rw [e1, e2, e3, e4, m_X8_reaches_L24, if_pos (by decide)]
/-- no number of needs is above what was written -/
def Nw (T : TT) (N : Nat → Nat) : Prop := ∀ o, o < 4 → N o ≤ tt_wr T o
theorem upC_w {N : Nat → Nat} (hN : Nw T N) {B f : Nat} (hf : f < 4) (hB : tt_ca T (B + f) ≤ tt_wr T f) : Nw T (upC T B N f) := by
  intro o ho
  unfold upC
  by_cases e : o = f
  · subst e; rw [up_s]; exact Nat.max_le.mpr ⟨hN o ho, hB⟩
  · rw [up_n e]; exact hN o ho
theorem upV_w (I : InvT T) {N : Nat → Nat} (hN : Nw T N) {o v : Nat} (ho : o < 4) (hv : v < tt_wr T o) : Nw T (upV T (96 * o + 4 * v) N) := by
  have hc : ∀ f, f < 4 → tt_ca T (96 * o + 4 * v + f) ≤ tt_wr T f := fun f hf => by
    have := (I.2.2.2.2.2.2.2.1 o (v + 1) ho (by omega) (by omega)).2 f hf
    rwa [Nat.add_sub_cancel] at this
  exact upC_w (upC_w (upC_w (upC_w hN (by omega) (hc 0 (by omega))) (by omega) (hc 1 (by omega))) (by omega) (hc 2 (by omega))) (by omega) (hc 3 (by omega))
/-- a version's own origin needs no more than it has -/
theorem upC_same {N : Nat → Nat} {B f o : Nat} (h : o = f → tt_ca T (B + f) ≤ N o) : upC T B N f o = N o := by
  unfold upC
  by_cases e : o = f
  · subst e; rw [up_s]; exact Nat.max_eq_left (h rfl)
  · rw [up_n e]
theorem upV_same (I : InvT T) {N : Nat → Nat} {o v : Nat} (ho : o < 4) (hv : v < N o) (hN : N o ≤ tt_wr T o) : upV T (96 * o + 4 * v) N o = N o := by
  have hc : tt_ca T (96 * o + 4 * v + o) = v := by
    have := (I.2.2.2.2.2.2.2.1 o (v + 1) ho (by omega) (by omega)).1
    rwa [Nat.add_sub_cancel] at this
  have s : ∀ {M : Nat → Nat} {f : Nat}, M o = N o → upC T (96 * o + 4 * v) M f o = N o := by
    intro M f hM
    rw [upC_same (fun e => by rw [← e, hc, hM]; omega), hM]
  exact s (s (s (s rfl)))
theorem upL_same (I : InvT T) {N : Nat → Nat} {o : Nat} (ho : o < 4) (hN : N o ≤ tt_wr T o) : ∀ n, n ≤ N o → upL T o n N o = N o := by
  intro n
  induction n with
  | zero => intro _; rfl
  | succ n ih =>
    intro hn
    have e := ih (by omega)
    rw [upL, upV_same I ho (by rw [e]; omega) (by rw [e]; exact hN), e]
theorem upL_w (I : InvT T) {N : Nat → Nat} (hN : Nw T N) {o : Nat} (ho : o < 4) : ∀ n, n ≤ N o → Nw T (upL T o n N) := by
  intro n
  induction n with
  | zero => intro _; exact hN
  | succ n ih => intro hn; exact upV_w I (ih (by omega)) ho (by have := hN o ho; omega)
theorem r_re_L11 (I : InvT T) {o : Nat} (ho : o < 4) {N0 : Nat → Nat} (hb0 : ∀ o, N0 o ≤ 24) (hw0 : Nw T N0) (kx : Int32 → Wd → Option (Int32 × Wd)) (b0 : Nat) : ∀ (d n v b : Nat) (w : Wd), v + d = N0 o → d < n → ZZ b0 N0 b (upL T o v N0) → RepR T (w 1) → RepW w (upL T o v N0) → ∃ b' w', ZZ b0 N0 b' (npO T N0 o) ∧ m_X8_reaches_L11 (nI o) kx n (nI b) (nI (v + 1)) w = kx (nI b') w' ∧ RepW w' (npO T N0 o) ∧ (∀ k, k ≠ 7 → w' k = w k) := by
  have hc := I.B.2.2.2.2
  have hib : ib (nI o) 4 := ib_n (by omega) (by omega)
  have hcl : (nI o).toNatClampNeg = o := nI_clamp (by omega)
  have hL := hb0 o
  intro d
  induction d with
  | zero =>
    intro n v b w hv hn hz h hN
    obtain ⟨n, rfl⟩ : ∃ m, n = m + 1 := ⟨n - 1, by omega⟩
    have e : v = N0 o := by omega
    have eo := upL_same I ho (hw0 o ho) v (by omega)
    subst e
    refine ⟨b, w, hz, ?_, hN, fun _ _ => rfl⟩
    rw [m_X8_reaches_L11, if_pos hib, if_pos (by rw [hcl, hN o ho, eo, z_lt (by omega) (by omega)]; omega)]
  | succ d ih =>
    intro n v b w hv hn hz h hN
    obtain ⟨n, rfl⟩ : ∃ m, n = m + 1 := ⟨n - 1, by omega⟩
    obtain ⟨M, hM, -⟩ := FU5
    have eo := upL_same I ho (hw0 o ho) v (by omega)
    rw [m_X8_reaches_L11, if_pos hib, if_neg (by rw [hcl, hN o ho, eo, z_lt (by omega) (by omega)]; omega), hM]
    obtain ⟨b1, w1, z1, e1, r1, f1⟩ := r_re_ver h I.B hN (upL_le hc ho hb0 v (by omega)) ho (v := v) (by omega) (fun x1_2 w3 => (m_X8_reaches_L11 (nI o) kx n) x1_2 (nI (v + 1) + (nI 1)) w3) M b hz.1
    rw [e1, nI_add]
    obtain ⟨b2, w2, z2, e2, r2, f2⟩ := ih n (v + 1) b1 w1 (by omega) (by omega) (hz.tr z1) (rr_7 h f1) r1
    exact ⟨b2, w2, z2, e2, r2, fun k hk => (f2 k hk).trans (f1 k hk)⟩
theorem npO_w (I : InvT T) {N : Nat → Nat} (hN : Nw T N) {o : Nat} (ho : o < 4) : Nw T (npO T N o) := upL_w I hN ho _ (Nat.le_refl _)
theorem npass_w (I : InvT T) {N : Nat → Nat} (hN : Nw T N) : Nw T (npass T N) := npO_w I (npO_w I (npO_w I (npO_w I hN (by omega)) (by omega)) (by omega)) (by omega)
theorem r_reaches (h : RepR T (w 1)) (I : InvT T) {N : Nat → Nat} (hN : RepW w N) (hb : ∀ o, N o ≤ 24) (hw : Nw T N) : ∃ b w', ZZ 0 N b (npass T N) ∧ m_X8_reaches w = some (nI b, w') ∧ RepW w' (npass T N) ∧ (∀ k, k ≠ 7 → w' k = w k) := by
  have hc := I.B.2.2.2.2
  have hF := FUb
  have st : ∀ {u : Wd} {M : Nat → Nat} (o n b : Nat), o < 4 → b ≤ 1 → RepR T (u 1) → RepW u M → (∀ o, M o ≤ 24) → Nw T M → ∃ b' u', ZZ b M b' (npO T M o) ∧ m_X8_reaches_L4 (n + 1) (nI b) (nI o) u = m_X8_reaches_L4 n (nI b') (nI (o + 1)) u' ∧ RepW u' (npO T M o) ∧ (∀ k, k ≠ 7 → u' k = u k) := by
    intro u M o n b ho hbb hu hM hMb hMw
    obtain ⟨b', u', z, e, r, f⟩ := r_re_L11 I ho hMb hMw (fun x1_1 w2 => (m_X8_reaches_L4 n) x1_1 (nI o + (nI 1)) w2) b (M o) FU 0 b u (by omega) (by have := hMb o; omega) ⟨hbb, fun q => ⟨q, rfl⟩, fun q => Or.inl q, Nat.le_refl _⟩ hu hM
    refine ⟨b', u', z, ?_, r, f⟩
    rw [m_X8_reaches_L4, if_neg (by rw [z_le (by omega) (by omega)]; omega), show nI 1 = nI (0 + 1) from rfl, e, nI_add]
  obtain ⟨n, en, -⟩ := FU5
  obtain ⟨b1, w1, z1, e1, r1, f1⟩ := st 0 (n + 4) 0 (by omega) (by omega) h hN hb hw
  have hb1 := npO_le hc (o := 0) (by omega) hb
  have hw1 := npO_w I hw (o := 0) (by omega)
  obtain ⟨b2, w2, z2, e2, r2, f2⟩ := st 1 (n + 3) b1 (by omega) z1.1 (rr_7 h f1) r1 hb1 hw1
  have hb2 := npO_le hc (o := 1) (by omega) hb1
  have hw2 := npO_w I hw1 (o := 1) (by omega)
  obtain ⟨b3, w3, z3, e3, r3, f3⟩ := st 2 (n + 2) b2 (by omega) z2.1 (rr_7 (rr_7 h f1) f2) r2 hb2 hw2
  have hb3 := npO_le hc (o := 2) (by omega) hb2
  have hw3 := npO_w I hw2 (o := 2) (by omega)
  obtain ⟨b4, w4, z4, e4, r4, f4⟩ := st 3 (n + 1) b3 (by omega) z3.1 (rr_7 (rr_7 (rr_7 h f1) f2) f3) r3 hb3 hw3
  have zz : ZZ 0 N b4 (npass T N) := ((z1.tr z2).tr z3).tr z4
  refine ⟨b4, w4, zz, ?_, r4, fun k hk => by rw [f4 k hk, f3 k hk, f2 k hk, f1 k hk]⟩
  rw [m_X8_reaches, en, e1, e2, e3, e4, m_X8_reaches_L4, if_pos (by decide)]
  rcases (show b4 = 0 ∨ b4 = 1 by have := zz.1; omega) with q | q <;> rw [q] <;> rfl
theorem r_mi_L55 (I : InvT T) (x1 : Int32) (kx : Wd → Option (Int32 × Wd)) : ∀ (m n b : Nat) (N : Nat → Nat) (w : Wd), m + 1 < n → b ≤ 1 → (b = 0 → npass T N = N) → 96 < sum4 N + m → RepR T (w 1) → RepW w N → (∀ o, N o ≤ 24) → Nw T N → ∃ w', m_X8_missing_L55 x1 kx n (nI b) w = kx w' ∧ RepW w' (nit T m N) ∧ ∀ k, k ≠ 7 → w' k = w k := by
  have hc := I.B.2.2.2.2
  intro m
  induction m with
  | zero =>
    intro n b N w _ _ _ hs _ _ hb _
    have := hb 0; have := hb 1; have := hb 2; have := hb 3
    unfold sum4 at hs
    omega
  | succ m ih =>
    intro n b N w hn hb1 hfix hs h hN hb hw
    obtain ⟨n, rfl⟩ : ∃ m, n = m + 1 := ⟨n - 1, by omega⟩
    rw [m_X8_missing_L55]
    by_cases cb : b = 0
    · subst cb
      refine ⟨w, if_pos rfl, ?_, fun _ _ => rfl⟩
      rw [nit_fix T (hfix rfl)]
      exact hN
    · obtain ⟨b', w1, zz, q3, q4, q5⟩ := r_reaches h I hN hb hw
      rw [if_neg (by rw [z_eq0 (by omega)]; exact cb), q3, b_b]
      dsimp only
      by_cases z : b' = 0
      · have e := (zz.2.1 z).2
        obtain ⟨n, rfl⟩ : ∃ m, n = m + 1 := ⟨n - 1, by omega⟩
        refine ⟨w1, ?_, ?_, q5⟩
        · rw [m_X8_missing_L55, if_pos (by rw [z]; rfl)]
        · rw [nit_fix T e]
          rw [e] at q4
          exact q4
      · have h1 := zz.1
        have hs' : sum4 N < sum4 (npass T N) := by
          rcases zz.2.2.1 (by omega) with q | q
          · omega
          · exact q
        obtain ⟨w', r1, r2, r3⟩ := ih n b' (npass T N) w1 (by omega) h1 (fun z2 => absurd z2 z) (by omega) (rr_7 h q5) q4 (npass_le hc hb) (npass_w I hw)
        exact ⟨w', r1, r2, fun k hk => (r3 k hk).trans (q5 k hk)⟩
theorem r_mi_L84 (h : RepR T (w 1)) {N : Nat → Nat} (hN : RepW w N) (hb : ∀ o, N o ≤ 24) {p o : Nat} (hp : p < 8) (ho : o < 4) (kx : Int32 → Wd → Option (Int32 × Wd)) (a0 : Nat) : ∀ (d n v : Nat), v + d = N o → d < n → m_X8_missing_L84 (nI p) (nI o) kx n (nI (a0 + fb_ct (fun i => !tt_kn T (4 * p + o) (i + 1)) v)) (nI (v + 1)) w = kx (nI (a0 + nmiss T p N o)) w := by
  have hbo := hb o
  have hib : ib (nI o) 4 := ib_n (by omega) (by omega)
  have hcl : (nI o).toNatClampNeg = o := nI_clamp (by omega)
  intro d
  induction d with
  | zero =>
    intro n v hv hn
    obtain ⟨n, rfl⟩ : ∃ m, n = m + 1 := ⟨n - 1, by omega⟩
    rw [m_X8_missing_L84, if_pos hib, if_pos (by rw [hcl, hN o ho, z_lt (by omega) (by omega)]; omega), nmiss, ← hv, Nat.add_zero]
  | succ d ih =>
    intro n v hv hn
    obtain ⟨n, rfl⟩ : ∃ m, n = m + 1 := ⟨n - 1, by omega⟩
    have e := ih n (v + 1) (by omega) (by omega)
    rw [fb_ct] at e
    rw [m_X8_missing_L84, if_pos hib, if_neg (by rw [hcl, hN o ho, z_lt (by omega) (by omega)]; omega), r_knows h hp ho (by omega) (by omega), b_b]
    by_cases c : tt_kn T (4 * p + o) (v + 1) = true
    · rw [if_neg (by rw [c]; decide), Nat.add_zero] at e
      rw [if_pos c, if_neg (by decide), m_X8_missing_j115, lt_eq, nI_add, nI_add]
      exact e
    · rw [if_pos (by simpa using c)] at e
      rw [if_neg c, if_pos (by decide), m_X8_missing_j115, lt_eq, nI_add, nI_add]
      exact e
theorem g_missing (h : FR S w) (x y z : Int32) : ∃ w', m_X8_missing x y z w = some (sq_missing S.1 (dn x) (dn y) (dn z), w') ∧ FR S w' := by
  have I := h.2.1.1
  have hnp := it_np I.B
  rw [m_X8_missing, r_isProxy h.1 I.B, b_b, r_isUpdate h.1 I, b_b]
  unfold sq_missing
  by_cases c : dn x < tt_nu S.1 0
  · rw [if_pos c, if_neg (by decide)]
    by_cases d : wasW S.1 (dn y) (dn z)
    · have h24 := it_wr I d.1
      have ex := dn_lt c (by omega)
      have ey := dn_lt d.1 (by omega)
      have ez := dn_lt (Nat.lt_succ_of_le d.2.2) (by omega)
      generalize dn x = p at *
      generalize dn y = o at *
      generalize dn z = v at *
      subst ex; subst ey; subst ez
      have ho := d.1
      have hvw := d.2.2
      rw [if_pos d, if_pos (by decide), if_pos (show p < tt_nu S.1 0 ∧ wasW S.1 o v from ⟨c, d⟩)]
      obtain ⟨n, hN, hnb⟩ := FU5
      have st : ∀ (u : Wd) (kx : Wd → Option (Int32 × Wd)) (e n : Nat), e < 4 → m_X8_missing_L22 (nI p) (nI o) (nI v) kx (n + 1) (nI e) u = m_X8_missing_L22 (nI p) (nI o) (nI v) kx n (nI (e + 1)) (wset u 7 e (nI (nini o v e))) := by
        intro u kx e n he
        rw [m_X8_missing_L22, if_neg (by rw [z_le (by omega) (by omega)]; omega)]
        unfold nini
        by_cases c : e = o
        · rw [if_neg (by rw [c]; exact fun q => q rfl), m_X8_missing_j45, if_pos (ib_n (by omega) (by omega)), nI_clamp (by omega), lt_eq, if_pos c, nI_add]
        · rw [if_pos (by rw [z_eq (by omega) (by omega)]; exact c), m_X8_missing_j45, if_pos (ib_n (by omega) (by omega)), nI_clamp (by omega), lt_eq, if_neg c, nI_add]
      obtain ⟨w1, e1⟩ : ∃ w1, w1 = wset w 7 0 (nI (nini o v 0)) := ⟨_, rfl⟩
      have f1 : ∀ k, k ≠ 7 → w1 k = w k := fun k hk => by rw [e1, wset_ne hk]
      obtain ⟨w2, e2⟩ : ∃ w2, w2 = wset w1 7 1 (nI (nini o v 1)) := ⟨_, rfl⟩
      have f2 : ∀ k, k ≠ 7 → w2 k = w k := fun k hk => by rw [e2, wset_ne hk, f1 k hk]
      obtain ⟨w3, e3⟩ : ∃ w3, w3 = wset w2 7 2 (nI (nini o v 2)) := ⟨_, rfl⟩
      have f3 : ∀ k, k ≠ 7 → w3 k = w k := fun k hk => by rw [e3, wset_ne hk, f2 k hk]
      obtain ⟨w4, e4⟩ : ∃ w4, w4 = wset w3 7 3 (nI (nini o v 3)) := ⟨_, rfl⟩
      have f4 : ∀ k, k ≠ 7 → w4 k = w k := fun k hk => by rw [e4, wset_ne hk, f3 k hk]
      have r4 : RepW w4 (nini o v) := by
        intro o ho
        rw [e4, wset_same]
        rcases (show o = 0 ∨ o = 1 ∨ o = 2 ∨ o = 3 by omega) with rfl | rfl | rfl | rfl
        · rw [upd_n (by omega), e3, wset_same, upd_n (by omega), e2, wset_same, upd_n (by omega), e1, wset_same, upd_s]
        · rw [upd_n (by omega), e3, wset_same, upd_n (by omega), e2, wset_same, upd_s]
        · rw [upd_n (by omega), e3, wset_same, upd_s]
        · rw [upd_s]
      have nb : ∀ e, nini o v e ≤ 24 := fun e => by unfold nini; split <;> omega
      have nw : Nw S.1 (nini o v) := fun e he => by
        unfold nini
        split
        · rename_i q; rw [q]; exact hvw
        · exact Nat.zero_le _
      obtain ⟨w5, g1, g2, g3⟩ := r_mi_L55 I (nI p) (fun w4 => m_X8_missing_L75 (nI p) (n + 5) (nI 0) (nI 0) w4) 97 (n + 5) 1 (nini o v) w4 (by omega) (by omega) (fun z => by omega) (by omega) (rr_7 h.1 f4) r4 nb nw
      have f5 : ∀ k, k ≠ 7 → w5 k = w k := fun k hk => (g3 k hk).trans (f4 k hk)
      have g2' : RepW w5 (nds S.1 o v) := g2
      have hb' : ∀ j, nds S.1 o v j ≤ 24 := nit_le I.B.2.2.2.2 97 (nini o v) nb
      have st5 : ∀ (e n a : Nat), e < 4 → m_X8_missing_L75 (nI p) (n + 1) (nI a) (nI e) w5 = m_X8_missing_L75 (nI p) n (nI (a + nmiss S.1 p (nds S.1 o v) e)) (nI (e + 1)) w5 := by
        intro e n a he
        have hF := FUb
        have hbe := hb' e
        have k := r_mi_L84 (rr_7 h.1 f5) g2' hb' (p := p) (by omega) he (fun x5_1 w2 => (m_X8_missing_L75 (nI p) n) x5_1 (nI e + (nI 1)) w2) a (nds S.1 o v e) FU 0 (by omega) (by omega)
        rw [show a + fb_ct (fun i => !tt_kn S.1 (4 * p + e) (i + 1)) 0 = a from rfl, show (0 + 1) = 1 from rfl] at k
        rw [m_X8_missing_L75, if_neg (by rw [z_le (by omega) (by omega)]; omega), k, nI_add]
      refine ⟨w5, ?_, fr_q h (fun k _ k7 => f5 k k7)⟩
      rw [hN, st _ _ 0 (n + 4) (by omega), ← e1, st _ _ 1 (n + 3) (by omega), ← e2, st _ _ 2 (n + 2) (by omega), ← e3, st _ _ 3 (n + 1) (by omega), ← e4, m_X8_missing_L22, if_pos (by decide), g1, st5 0 (n + 4) 0 (by omega), st5 1 (n + 3) _ (by omega), st5 2 (n + 2) _ (by omega), st5 3 (n + 1) _ (by omega), m_X8_missing_L75, if_pos (by decide), Nat.zero_add]
      rfl
    · rw [if_neg d, if_neg (by decide), if_neg (fun q => d q.2)]; exact ⟨w, rfl, h⟩
  · rw [if_neg c, if_pos (by decide), if_neg (fun q => c q.1)]; exact ⟨w, rfl, h⟩
end RMISS
