/-! ===== the reference: what a proxy serves ===== -/
section RSERVE
variable {T : TT} {w : Wd}
theorem r_s_L79 (h : RepR T (w 1)) (I : InvB T) {P : Nat → Nat} (hP : RepS w P) (hb : ∀ o, P o ≤ 24) {o : Nat} (ho : o < 4) (x2 : Int32) (kx : Int32 → Wd → Option Wd) : ∀ (d n k : Nat), k + d = cutv T P o → d < n → m_X8_serves_L79 x2 (nI o) kx n (nI (k + 1)) w = kx (nI (cutv T P o + 1)) w := by
  have hle := cutv_le T P o
  have hbo := hb o
  have hno := fa_first_no (fun i => !hasC T P o (i + 1)) (P o)
  have hyes := fa_first_yes (fun i => !hasC T P o (i + 1)) (P o)
  change ∀ k, k < cutv T P o → _ at hno
  change cutv T P o < P o → (!hasC T P o (cutv T P o + 1)) = true at hyes
  generalize cutv T P o = C at hle hno hyes ⊢
  have hib : ib (nI o) 4 := by rw [z_ib (by omega)]; exact ho
  have hcl : (nI o).toNatClampNeg = o := nI_clamp (by omega)
  intro d
  induction d with
  | zero =>
    intro n k hk hn
    obtain ⟨n, rfl⟩ : ∃ m, n = m + 1 := ⟨n - 1, by omega⟩
    have e : k = C := by omega
    subst e
    rw [m_X8_serves_L79, if_pos hib]
    by_cases c : P o < k + 1
    · rw [if_pos (by rw [hcl, hP o ho, z_lt (by omega) (by omega)]; exact c)]
    · have hy := hyes (by omega)
      have hy2 : hasC T P o (k + 1) = false := by simpa using hy
      rw [if_neg (by rw [hcl, hP o ho, z_lt (by omega) (by omega)]; exact c), r_isCaused h I hP hb ho (by omega) (by omega), hy2, b_b, if_pos (by decide)]
  | succ d ih =>
    intro n k hk hn
    obtain ⟨n, rfl⟩ : ∃ m, n = m + 1 := ⟨n - 1, by omega⟩
    have hy2 : hasC T P o (k + 1) = true := by simpa using hno k (by omega)
    rw [m_X8_serves_L79, if_pos hib, if_neg (by rw [hcl, hP o ho, z_lt (by omega) (by omega)]; omega), r_isCaused h I hP hb ho (by omega) (by omega), hy2, b_b, if_neg (by decide), nI_add, ih n (k + 1) (by omega) (by omega)]
theorem r_s_step (h : RepR T (w 1)) (I : InvB T) {P : Nat → Nat} (hP : RepS w P) (hb : ∀ o, P o ≤ 24) {o : Nat} (ho : o < 4) (kx : Int32 → Wd → Option Wd) (n b : Nat) (hbb : b ≤ 1) : m_X8_serves_L71 kx (n + 1) (nI b) (nI o) w = m_X8_serves_L71 kx n (nI (if b = 0 ∧ cutv T P o = P o then 0 else 1)) (nI (o + 1)) (wset w 5 o (nI (cutv T P o))) := by
  have hle := cutv_le T P o
  have hbo := hb o
  have hF := FUb
  have hib : ib (nI o) 4 := by rw [z_ib (by omega)]; exact ho
  have hcl : (nI o).toNatClampNeg = o := nI_clamp (by omega)
  have k1 := r_s_L79 h I hP hb ho (nI b) (fun x4_1 w2 => m_X8_serves_j106 (nI b) (nI o) x4_1 w2 (m_X8_serves_L71 kx n) kx) (cutv T P o) FU 0 (by omega) (by omega)
  rw [m_X8_serves_L71, if_neg (by rw [z_le (by omega) (by omega)]; omega), show nI 1 = nI (0 + 1) from rfl, k1]
  generalize cutv T P o = C at hle ⊢
  have j126 : ∀ b', m_X8_serves_j126 (nI o) (nI (C + 1)) (nI b') w (m_X8_serves_L71 kx n) kx = m_X8_serves_L71 kx n (nI b') (nI (o + 1)) (wset w 5 o (nI C)) := by
    intro b'
    rw [m_X8_serves_j126, if_pos hib, lt_eq, hcl, z_sub (by omega), Nat.add_sub_cancel, nI_add]
  rw [m_X8_serves_j106]
  by_cases c : b = 0
  · rw [if_neg (by rw [c]; exact fun q => q rfl), if_pos hib]
    by_cases d : P o < C + 1
    · rw [if_pos (by rw [hcl, hP o ho, z_lt (by omega) (by omega)]; exact d), j126, if_pos ⟨c, by omega⟩]
    · rw [if_neg (by rw [hcl, hP o ho, z_lt (by omega) (by omega)]; exact d), m_X8_serves_j121, j126, if_neg (fun q => d (by omega))]
  · rw [if_pos (by rw [z_eq0 (by omega)]; exact c), m_X8_serves_j121, j126, if_neg (fun q => c q.1)]
theorem r_s_pass (h : RepR T (w 1)) (I : InvB T) {P : Nat → Nat} (hP : RepS w P) (hb : ∀ o, P o ≤ 24) (kx : Int32 → Wd → Option Wd) (n : Nat) : ∃ (b : Nat) (w' : Wd), b ≤ 1 ∧ (b = 0 → pass T P = P) ∧ (b = 1 → sum4 (pass T P) < sum4 P) ∧ m_X8_serves_L71 kx (n + 5) (nI 0) (nI 0) w = kx (nI b) w' ∧ RepS w' (pass T P) ∧ ∀ k, k ≠ 5 → w' k = w k := by
  have one : ∀ {P : Nat → Nat}, (∀ o, P o ≤ 24) → ∀ o j, passO T P o j ≤ 24 := fun hb o j => Nat.le_trans (passO_le _ _ _ _) (hb j)
  have hb1 := one hb 0
  have hb2 := one hb1 1
  have hb3 := one hb2 2
  obtain ⟨w1, e1⟩ : ∃ w1, w1 = wset w 5 0 (nI (cutv T P 0)) := ⟨_, rfl⟩
  have p1 : RepS w1 (passO T P 0) := by rw [e1]; exact repS_set hP 0 _
  have f1 : ∀ k, k ≠ 5 → w1 k = w k := fun k hk => by rw [e1, wset_ne hk]
  have h1 := rr_5 h f1
  obtain ⟨w2, e2⟩ : ∃ w2, w2 = wset w1 5 1 (nI (cutv T (passO T P 0) 1)) := ⟨_, rfl⟩
  have p2 : RepS w2 (passO T (passO T P 0) 1) := by rw [e2]; exact repS_set p1 1 _
  have f2 : ∀ k, k ≠ 5 → w2 k = w k := fun k hk => by rw [e2, wset_ne hk, f1 k hk]
  have h2 := rr_5 h f2
  obtain ⟨w3, e3⟩ : ∃ w3, w3 = wset w2 5 2 (nI (cutv T (passO T (passO T P 0) 1) 2)) := ⟨_, rfl⟩
  have p3 : RepS w3 (passO T (passO T (passO T P 0) 1) 2) := by rw [e3]; exact repS_set p2 2 _
  have f3 : ∀ k, k ≠ 5 → w3 k = w k := fun k hk => by rw [e3, wset_ne hk, f2 k hk]
  have h3 := rr_5 h f3
  obtain ⟨w4, e4⟩ : ∃ w4, w4 = wset w3 5 3 (nI (cutv T (passO T (passO T (passO T P 0) 1) 2) 3)) := ⟨_, rfl⟩
  have p4 : RepS w4 (pass T P) := by rw [e4]; exact repS_set p3 3 _
  have f4 : ∀ k, k ≠ 5 → w4 k = w k := fun k hk => by rw [e4, wset_ne hk, f3 k hk]
  obtain ⟨b1, g1⟩ : ∃ b1, b1 = if 0 = 0 ∧ cutv T P 0 = P 0 then 0 else 1 := ⟨_, rfl⟩
  obtain ⟨b2, g2⟩ : ∃ b2, b2 = if b1 = 0 ∧ cutv T (passO T P 0) 1 = passO T P 0 1 then 0 else 1 := ⟨_, rfl⟩
  obtain ⟨b3, g3⟩ : ∃ b3, b3 = if b2 = 0 ∧ cutv T (passO T (passO T P 0) 1) 2 = passO T (passO T P 0) 1 2 then 0 else 1 := ⟨_, rfl⟩
  obtain ⟨b4, g4⟩ : ∃ b4, b4 = if b3 = 0 ∧ cutv T (passO T (passO T (passO T P 0) 1) 2) 3 = passO T (passO T (passO T P 0) 1) 2 3 then 0 else 1 := ⟨_, rfl⟩
  have l : ∀ {c : Prop} {_ : Decidable c} {x : Nat}, x = (if c then 0 else 1) → x ≤ 1 ∧ (x = 0 → c) ∧ (x = 1 → ¬ c) := by
    intro c _ x hx
    by_cases hc : c
    · exact ⟨by rw [hx, if_pos hc]; omega, fun _ => hc, fun q => by rw [hx, if_pos hc] at q; omega⟩
    · exact ⟨by rw [hx, if_neg hc]; omega, fun hx0 => by rw [hx, if_neg hc] at hx0; omega, fun _ => hc⟩
  have fix : b4 = 0 → pass T P = P := fun z4 => by
    have q4 := (l g4).2.1 z4
    have q3 := (l g3).2.1 q4.1
    have q2 := (l g2).2.1 q3.1
    have q1 := (l g1).2.1 q2.1
    have r1 := passO_same q1.2
    have r2 := passO_same q2.2
    have r3 := passO_same q3.2
    have r4 := passO_same q4.2
    show passO T (passO T (passO T (passO T P 0) 1) 2) 3 = P
    rw [r4, r3, r2, r1]
  refine ⟨b4, w4, (l g4).1, fix, fun z4 => ?_, ?_, p4, f4⟩
  · -- one of the four is cut
    have lt : ∀ {Q : Nat → Nat} {o : Nat}, cutv T Q o ≠ Q o → passO T Q o o < Q o := by
      intro Q o ne
      have := cutv_le T Q o
      show va_up Q o (cutv T Q o) o < Q o
      rw [up_s]; omega
    have A0 : ∀ j, passO T P 0 j ≤ P j := passO_le T P 0
    have A1 : ∀ j, passO T (passO T P 0) 1 j ≤ passO T P 0 j := passO_le T _ 1
    have A2 : ∀ j, passO T (passO T (passO T P 0) 1) 2 j ≤ passO T (passO T P 0) 1 j := passO_le T _ 2
    have A3 : ∀ j, pass T P j ≤ passO T (passO T (passO T P 0) 1) 2 j := passO_le T _ 3
    have c4 := (l g4).2.2 z4
    have a00 := A0 0; have a01 := A0 1; have a02 := A0 2; have a03 := A0 3
    have a10 := A1 0; have a11 := A1 1; have a12 := A1 2; have a13 := A1 3
    have a20 := A2 0; have a21 := A2 1; have a22 := A2 2; have a23 := A2 3
    have a30 := A3 0; have a31 := A3 1; have a32 := A3 2; have a33 := A3 3
    unfold sum4
    by_cases k4 : cutv T (passO T (passO T (passO T P 0) 1) 2) 3 = passO T (passO T (passO T P 0) 1) 2 3
    · have b3e : b3 = 1 := by
        have := (l g3).1
        by_cases z : b3 = 0
        · exact absurd ⟨z, k4⟩ c4
        · omega
      have c3 := (l g3).2.2 b3e
      by_cases k3 : cutv T (passO T (passO T P 0) 1) 2 = passO T (passO T P 0) 1 2
      · have b2e : b2 = 1 := by
          have := (l g2).1
          by_cases z : b2 = 0
          · exact absurd ⟨z, k3⟩ c3
          · omega
        have c2 := (l g2).2.2 b2e
        by_cases k2 : cutv T (passO T P 0) 1 = passO T P 0 1
        · have b1e : b1 = 1 := by
            have := (l g1).1
            by_cases z : b1 = 0
            · exact absurd ⟨z, k2⟩ c2
            · omega
          have c1 := (l g1).2.2 b1e
          have := lt (Q := P) (o := 0) (fun q => c1 ⟨rfl, q⟩)
          omega
        · have := lt k2
          omega
      · have := lt k3
        omega
    · have := lt k4
      change pass T P 3 < _ at this
      omega
  · rw [r_s_step h I hP hb (by omega) kx (n + 4) 0 (by omega), ← g1, ← e1, r_s_step h1 I p1 hb1 (by omega) kx (n + 3) b1 (l g1).1, ← g2, ← e2, r_s_step h2 I p2 hb2 (by omega) kx (n + 2) b2 (l g2).1, ← g3, ← e3, r_s_step h3 I p3 hb3 (by omega) kx (n + 1) b3 (l g3).1, ← g4, ← e4, m_X8_serves_L71, if_pos (by decide)]
theorem r_s_L63 (I : InvB T) : ∀ (m n b : Nat) (P : Nat → Nat) (w : Wd), m + 1 < n → b ≤ 1 → (b = 0 → pass T P = P) → sum4 P < m → RepR T (w 1) → RepS w P → (∀ o, P o ≤ 24) → ∃ w', m_X8_serves_L63 n (nI b) w = some w' ∧ RepS w' (itp T m P) ∧ ∀ k, k ≠ 5 → w' k = w k := by
  intro m
  induction m with
  | zero => intro n b P w _ _ _ hs; omega
  | succ m ih =>
    intro n b P w hn hb1 hfix hs h hP hb
    obtain ⟨n, rfl⟩ : ∃ m, n = m + 1 := ⟨n - 1, by omega⟩
    rw [m_X8_serves_L63]
    by_cases cb : b = 0
    · subst cb
      refine ⟨w, if_pos rfl, ?_, fun _ _ => rfl⟩
      rw [itp_fix T (hfix rfl)]
      exact hP
    · obtain ⟨N, hN, -⟩ := FU5
      rw [if_neg (by rw [z_eq0 (by omega)]; exact cb), hN]
      obtain ⟨b', w1, q1, q2, q6, q3, q4, q5⟩ := r_s_pass h I hP hb (fun x2_1 w2 => m_X8_serves_L63 n x2_1 w2) N
      rw [q3]
      have hb' : ∀ o, pass T P o ≤ 24 := fun o => Nat.le_trans (pass_le T P o) (hb o)
      by_cases z : b' = 0
      · have e := q2 z
        obtain ⟨n, rfl⟩ : ∃ m, n = m + 1 := ⟨n - 1, by omega⟩
        refine ⟨w1, ?_, ?_, q5⟩
        · rw [m_X8_serves_L63, if_pos (by rw [z]; rfl)]
        · rw [itp_fix T e]
          rw [e] at q4
          exact q4
      · obtain ⟨w', r1, r2, r3⟩ := ih n b' (pass T P) w1 (by omega) q1 (fun z2 => absurd z2 z) (by have := q6 (by omega); omega) (rr_5 h q5) q4 hb'
        exact ⟨w', r1, r2, fun k hk => (r3 k hk).trans (q5 k hk)⟩
theorem r_serves (h : RepR T (w 1)) (I : InvB T) {p : Nat} (hp : p < 8) : ∃ w', m_X8_serves (nI p) w = some w' ∧ RepS w' (pfx T p) ∧ ∀ k, k ≠ 5 → w' k = w k := by
  have hF := FUb
  have key : ∀ n (kx : Wd → Option Wd), ∃ w', m_X8_serves_L2 (nI p) kx (n + 5) (nI 0) w = kx w' ∧ RepS w' (ini T p) ∧ ∀ k, k ≠ 5 → w' k = w k := by
    intro n kx
    have st : ∀ {u : Wd}, RepR T (u 1) → ∀ (o n : Nat), o < 4 → ∃ u', u' = wset (wset u 5 o (nI 0)) 5 o (nI (ini T p o)) ∧ m_X8_serves_L2 (nI p) kx (n + 1) (nI o) u = m_X8_serves_L2 (nI p) kx n (nI (o + 1)) u' := by
      intro u hu o n ho
      refine ⟨_, rfl, ?_⟩
      have hib : ib (nI o) 4 := by rw [z_ib (by omega)]; exact ho
      have hcl : (nI o).toNatClampNeg = o := nI_clamp (by omega)
      rw [m_X8_serves_L2, if_neg (by rw [z_le (by omega) (by omega)]; omega), if_pos hib, lt_eq, hcl]
      rw [r_s_L14 hp ho _ (ini T p o) FU 0 (wset u 5 o (nI 0)) (by rw [Nat.zero_add]; rfl) (by have := ini_le T p o; omega) (by rw [wset_ne (by omega)]; exact hu) (by rw [wset_same, upd_s]), m_X8_serves_j55, nI_add]
      rfl
    have fr : ∀ {u u' : Wd} {o : Nat}, u' = wset (wset u 5 o (nI 0)) 5 o (nI (ini T p o)) → (∀ k, k ≠ 5 → u' k = u k) ∧ u' 5 o = nI (ini T p o) ∧ ∀ j, j ≠ o → u' 5 j = u 5 j := by
      intro u u' o e
      refine ⟨fun k hk => by rw [e, wset_ne hk, wset_ne hk], by rw [e, wset_same, upd_s], fun j hj => by rw [e, wset_same, upd_n hj, wset_same, upd_n hj]⟩
    obtain ⟨w1, e1, s1⟩ := st h 0 (n + 4) (by omega)
    obtain ⟨f1, v1, g1⟩ := fr e1
    obtain ⟨w2, e2, s2⟩ := st (rr_5 h f1) 1 (n + 3) (by omega)
    obtain ⟨f2, v2, g2⟩ := fr e2
    obtain ⟨w3, e3, s3⟩ := st (rr_5 (rr_5 h f1) f2) 2 (n + 2) (by omega)
    obtain ⟨f3, v3, g3⟩ := fr e3
    obtain ⟨w4, e4, s4⟩ := st (rr_5 (rr_5 (rr_5 h f1) f2) f3) 3 (n + 1) (by omega)
    obtain ⟨f4, v4, g4⟩ := fr e4
    refine ⟨w4, ?_, ?_, fun k hk => by rw [f4 k hk, f3 k hk, f2 k hk, f1 k hk]⟩
    · rw [s1, s2, s3, s4, m_X8_serves_L2, if_pos (by decide)]
    · intro o ho
      rcases (show o = 0 ∨ o = 1 ∨ o = 2 ∨ o = 3 by omega) with rfl | rfl | rfl | rfl
      · rw [g4 0 (by omega), g3 0 (by omega), g2 0 (by omega), v1]
      · rw [g4 1 (by omega), g3 1 (by omega), v2]
      · rw [g4 2 (by omega), v3]
      · rw [v4]
  obtain ⟨N, hN, hb⟩ := FU5
  obtain ⟨w1, k1, k2, k3⟩ := key N (fun w1 => m_X8_serves_L63 (N + 5) (nI 1) w1)
  have i0 := ini_le T p 0
  have i1 := ini_le T p 1
  have i2 := ini_le T p 2
  have i3 := ini_le T p 3
  obtain ⟨w', r1, r2, r3⟩ := r_s_L63 I 97 (N + 5) 1 (ini T p) w1 (by omega) (by omega) (fun z => by omega) (by unfold sum4; omega) (rr_5 h k3) k2 (ini_le T p)
  refine ⟨w', ?_, r2, fun k hk => (r3 k hk).trans (k3 k hk)⟩
  rw [m_X8_serves, hN, k1]
  exact r1
end RSERVE
