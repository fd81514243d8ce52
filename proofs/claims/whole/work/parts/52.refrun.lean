/-! ===== the reference: running the script ===== -/
theorem cmd_np {T : TT} (I : InvT T) (c : CM) : tt_nu (cmdS T c).2 0 = tt_nu T 0 := by
  have hnp := it_np I.B
  have ask : ∀ p, tt_nu (sp_ask T p).2 0 = tt_nu T 0 := by
    intro p
    unfold sp_ask
    split
    · rename_i g
      exact (askL_ok (p := p) p 1 (0, 0, 0, T) (by omega) I).2.1.2.2.2.2.1
    · rfl
  have del : ∀ a d n, tt_nu (sp_deliver T a d n).2 0 = tt_nu T 0 := by
    intro a d n
    unfold sp_deliver
    by_cases g : ((1 ≤ a ∧ a < tt_nu T 0) ∧ d < 2) ∧ 1 ≤ n ∧ n ≤ 9
    · rw [if_pos g]
      by_cases k : (tt_li T (qi a d)).length = 0
      · rw [if_pos k]
      · rw [if_neg k]
        have := I.2.2.2.1.2 a (by omega) (by omega)
        exact (dlv_ok (if d = 0 then tt_pa T a else a) (if d = 0 then a else tt_pa T a) (qi a d) (by split <;> omega) (by unfold qi; split <;> omega) (by unfold qi; split <;> omega) (by unfold qi; split <;> omega) (by unfold qi; split <;> omega) n T I).2.1.2.2.2.2.1
    · rw [if_neg g]
  have los : ∀ a d n, tt_nu (sp_lose T a d n).2 0 = tt_nu T 0 := by
    intro a d n
    unfold sp_lose
    split
    · split
      · rfl
      · exact up_n (f := tt_nu T) (k := 5) (j := 0) (x := tt_nu T 5 + min n (tt_li T (qi a d)).length) (by decide)
    · rfl
  have wri : ∀ o, tt_nu (sp_write T o).2 0 = tt_nu T 0 := by
    intro o
    unfold sp_write
    by_cases ho : o < 4
    · rw [if_pos ho]
      by_cases hw : tt_wr T o < 24
      · rw [if_pos hw]
        have := I.2.2.2.2.1 o ho
        exact (arrive_fx (wrT T o) (p := tt_ho T o) (by omega) 8 (100 * o + (tt_wr T o + 1))).2.2.2.2.1
      · rw [if_neg hw]
    · rw [if_neg ho]
  unfold cmdS
  split
  · exact ask _
  · split
    · exact del _ _ _
    · split
      · exact del _ _ _
      · split
        · exact wri _
        · split
          · exact los _ _ _
          · split
            · exact los _ _ _
            · rfl
section RRUN
variable {T : TT} {S : ST} {X : List Nat} {w : Wd}
theorem r_does (h : RepR T (w 1)) (I : InvT T) {c : CM} (e11 : w 0 11 = nI c.1) (e12 : w 0 12 = nI c.2.1) (e13 : w 0 13 = nI c.2.2) (hc : (lqu c.1 || lal c.1) = true) (h1 : c.1 ≤ 255) (h2 : c.2.1 ≤ 255) (h3 : c.2.2 ≤ 255) : ∃ w', m_X8_does w = some ((cmdS T c).1, w') ∧ RepR (cmdS T c).2 (w' 1) ∧ FrW w w' := by
  obtain ⟨l, n, m⟩ := c
  dsimp only at e11 e12 e13 h1 h2 h3 hc
  rw [m_X8_does, lt_eq, e11, e12, e13]
  unfold cmdS
  dsimp only
  have hcc : l = 117 ∨ l = 100 ∨ l = 120 ∨ l = 121 ∨ l = 119 ∨ l = 97 := by
    unfold lqu lal at hc
    simp only [Bool.or_eq_true, decide_eq_true_eq] at hc
    omega
  by_cases k1 : l = 100
  · obtain ⟨w', a1, a2, a3⟩ := r_delivers h I (nI n) (nI 1) (nI m)
    rw [dn_nI (by omega), dn_nI (by omega), dn_nI (by omega)] at a1 a2
    rw [if_pos (by rw [k1]), if_neg (by omega), if_pos k1, a1, b_b]
    exact ⟨w', rfl, a2, a3.w⟩
  rw [if_neg (by rw [z_eq (by omega) (by omega)]; exact k1)]
  by_cases k2 : l = 117
  · obtain ⟨w', a1, a2, a3⟩ := r_delivers h I (nI n) (nI 0) (nI m)
    rw [dn_nI (by omega), dn_nI (by omega), dn_nI (by omega)] at a1 a2
    rw [if_pos (by rw [k2]), if_neg (by omega), if_neg k1, if_pos k2, a1, b_b]
    exact ⟨w', rfl, a2, a3.w⟩
  rw [if_neg (by rw [z_eq (by omega) (by omega)]; exact k2)]
  by_cases k3 : l = 119
  · obtain ⟨w', a1, a2, a3⟩ := r_makes h I (nI n)
    rw [dn_nI (by omega)] at a1 a2
    rw [if_pos (by rw [k3]), if_neg (by omega), if_neg k1, if_neg k2, if_pos k3, a1, b_b]
    exact ⟨w', rfl, a2, a3.w⟩
  rw [if_neg (by rw [z_eq (by omega) (by omega)]; exact k3)]
  by_cases k4 : l = 120
  · obtain ⟨w', a1, a2, a3⟩ := r_loses h I (nI n) (nI 0) (nI m)
    rw [dn_nI (by omega), dn_nI (by omega), dn_nI (by omega)] at a1 a2
    rw [if_pos (by rw [k4]), if_neg (by omega), if_neg k1, if_neg k2, if_neg k3, if_pos k4, a1, b_b]
    exact ⟨w', rfl, a2, a3.w⟩
  rw [if_neg (by rw [z_eq (by omega) (by omega)]; exact k4)]
  by_cases k5 : l = 121
  · obtain ⟨w', a1, a2, a3⟩ := r_loses h I (nI n) (nI 1) (nI m)
    rw [dn_nI (by omega), dn_nI (by omega), dn_nI (by omega)] at a1 a2
    rw [if_pos (by rw [k5]), if_neg (by omega), if_neg k1, if_neg k2, if_neg k3, if_neg k4, if_pos k5, a1, b_b]
    exact ⟨w', rfl, a2, a3.w⟩
  rw [if_neg (by rw [z_eq (by omega) (by omega)]; exact k5), if_pos (by omega)]
  obtain ⟨w', a1, a2, a3⟩ := r_asks h I (nI n)
  rw [dn_nI (by omega)] at a1 a2
  rw [a1, b_b]
  exact ⟨w', rfl, a2, a3⟩
theorem r_run_L9 (I : InvB T) (k27 k42 : Wd → Option (Int32 × Wd)) : ∀ (d n k : Nat) (w : Wd), X.length ≤ k + d → d < n → k ≤ X.length → RepR T (w 1) → TextR X w → w 0 10 = nI k → (∀ h : k < X.length, X[k] ≠ 32) → (∃ e w', m_X8_runScript_L9 k27 k42 n w = k27 w' ∧ FrK w w' ∧ w' 0 10 = nI e ∧ mp (tt_nu T 0) X 0 0 0 k = .inl e) ∨ (∃ L w', m_X8_runScript_L9 k27 k42 n w = k42 w' ∧ FrK w w' ∧ mp (tt_nu T 0) X 0 0 0 k = .inr L) := by
  intro d
  induction d with
  | zero =>
    intro n k w hk hn hkl h ht e h32
    obtain ⟨n, rfl⟩ : ∃ m, n = m + 1 := ⟨n - 1, by omega⟩
    have hX := ht.2.2.1
    right
    refine ⟨[], w, ?_, FrK.rf, by rw [mp_end (by omega), if_pos rfl]⟩
    rw [m_X8_runScript_L9, if_pos (by rw [ht.1, e, z_le (by omega) (by omega)]; omega)]
  | succ d ih =>
    intro n k w hk hn hkl h ht e h32
    obtain ⟨n, rfl⟩ : ∃ m, n = m + 1 := ⟨n - 1, by omega⟩
    have hX := ht.2.2.1
    by_cases c : k < X.length
    · rw [m_X8_runScript_L9, if_neg (by rw [ht.1, e, z_le (by omega) (by omega)]; omega)]
      rcases r_isCommand h rfl (it_np I) c ht e (h32 c) with ⟨e', w1, a1, a2, a3, a4, a5⟩ | ⟨k2, cm, w1, a1, a2, a3, a4, a5, -, -, -, -, -, -, -, a6⟩
      · left
        refine ⟨e', w1, ?_, a2, a4, a5⟩
        rw [a1, b_b, if_neg (show ¬ ¬ nI 0 = (0 : Int32) from fun q => q rfl)]
      · have ht1 := text_x ht a2.x
        have h1 : RepR T (w1 1) := by rw [a2.1 1 (by omega)]; exact h
        obtain ⟨k3, w2, b1, b2, b3, b4, b5, b6, b7, b8⟩ := r_skip (tt_nu T 0) a4 ht1 a5
        have h2 : RepR T (w2 1) := by rw [b5.1 1 (by omega)]; exact h1
        have hgo : m_X8_runScript_L9 k27 k42 n w2 = (m_X8_isCommand w).bind fun o1 => if ¬ o1.1 = 0 then (m_X8_skips o1.2).bind fun o2 => (m_X8_runScript_L9 k27 k42 n) o2 else k27 o1.2 := by
          rw [a1, b_b, if_pos (show ¬ nI 1 = (0 : Int32) from n1ne)]
          dsimp only
          rw [b3, b_b]
        rw [← hgo, a6, b8 0 0 0]
        rcases ih n k3 w2 (by omega) (by omega) b2 h2 (text_x ht1 b5.x) b4 b7 with ⟨e', w', c1, c2, c3, c4⟩ | ⟨L, w', c1, c2, c3⟩
        · left
          exact ⟨e', w', c1, (a2.tr b5).tr c2, c3, by rw [c4]; rfl⟩
        · right
          exact ⟨cm :: L, w', c1, (a2.tr b5).tr c2, by rw [c3]; rfl⟩
    · right
      refine ⟨[], w, ?_, FrK.rf, by rw [mp_end (by omega), if_pos rfl]⟩
      rw [m_X8_runScript_L9, if_pos (by rw [ht.1, e, z_le (by omega) (by omega)]; omega)]
theorem r_run_L57 {np : Nat} (k97 : Int32 → Wd → Option (Int32 × Wd)) : ∀ (d n k a : Nat) (L : List CM) (T : TT) (w : Wd), X.length ≤ k + d → d < n → k ≤ X.length → RepR T (w 1) → InvQ T → tt_nu T 0 = np → TextR X w → w 0 10 = nI k → (∀ h : k < X.length, X[k] ≠ 32) → mp np X 0 0 0 k = .inr L → ∃ w', m_X8_runScript_L57 k97 n (nI a) w = k97 (nI (a + (runL L T).1)) w' ∧ RepR (runL L T).2 (w' 1) ∧ FrX w w' := by
  intro d
  induction d with
  | zero =>
    intro n k a L T w hk hn hkl h Q enp ht e h32 hmp
    obtain ⟨n, rfl⟩ : ∃ m, n = m + 1 := ⟨n - 1, by omega⟩
    have hX := ht.2.2.1
    rw [mp_end (by omega), if_pos rfl] at hmp
    cases hmp
    refine ⟨w, ?_, h, FrK.rf.x⟩
    rw [m_X8_runScript_L57, if_pos (by rw [ht.1, e, z_le (by omega) (by omega)]; omega)]
    rfl
  | succ d ih =>
    intro n k a L T w hk hn hkl h Q enp ht e h32 hmp
    obtain ⟨n, rfl⟩ : ∃ m, n = m + 1 := ⟨n - 1, by omega⟩
    have hX := ht.2.2.1
    have hnp := it_np Q.1.B
    by_cases c : k < X.length
    · rw [m_X8_runScript_L57, if_neg (by rw [ht.1, e, z_le (by omega) (by omega)]; omega)]
      rcases r_isCommand h enp (by omega) c ht e (h32 c) with ⟨e', w1, a1, a2, a3, a4, a5⟩ | ⟨k2, cm, w1, a1, a2, a3, a4, a5, q1, q2, q3, q4, q5, q6, q7, a6⟩
      · rw [hmp] at a5; cases a5
      · have ht1 := text_x ht a2.x
        have h1 : RepR T (w1 1) := by rw [a2.1 1 (by omega)]; exact h
        obtain ⟨w2, d1, d2, d3⟩ := r_does h1 Q.1 q1 q2 q3 q4 q5 q6 q7
        have ht2 := text_x ht1 d3.x
        have e2 : w2 0 10 = nI k2 := by rw [d3.2 10 (by omega)]; exact a5
        obtain ⟨k3, w3, b1, b2, b3, b4, b5, b6, b7, b8⟩ := r_skip np a4 ht2 e2
        have h3 : RepR (cmdS T cm).2 (w3 1) := by rw [b5.1 1 (by omega)]; exact d2
        rw [hmp, b8 0 0 0] at a6
        have fr : FrX w w3 := (a2.x.tr d3.x).tr b5.x
        generalize hr : mp np X 0 0 0 k3 = r at a6
        cases r with
        | inl e' => cases a6
        | inr L' =>
          have eL : L = cm :: L' := by cases a6; rfl
          subst eL
          have Q1 := iq_cmd Q cm
          have nx := fun a' => ih n k3 a' L' (cmdS T cm).2 w3 (by omega) (by omega) b2 h3 Q1 (by rw [cmd_np Q.1]; exact enp) (text_x ht2 b5.x) b4 b7 hr
          rw [a1, b_b, if_neg (show ¬ nI 1 = (0 : Int32) from n1ne)]
          dsimp only
          rw [d1, b_b, runL]
          by_cases g : (cmdS T cm).1 < 0
          · obtain ⟨w', f1, f2, f3⟩ := nx a
            rw [if_pos g, if_pos g, m_X8_runScript_j87, m_X8_runScript_j88, lt_eq, b3, b_b, nI_add]
            exact ⟨w', f1, f2, fr.tr f3⟩
          · obtain ⟨w', f1, f2, f3⟩ := nx (a + 1)
            rw [if_neg g, if_neg g, m_X8_runScript_j88, lt_eq, b3, b_b, nI_add]
            exact ⟨w', by rw [f1, show a + 1 + (runL L' (cmdS T cm).2).1 = a + ((runL L' (cmdS T cm).2).1 + 1) by omega], f2, fr.tr f3⟩
    · rw [mp_end (by omega), if_pos rfl] at hmp
      cases hmp
      refine ⟨w, ?_, h, FrK.rf.x⟩
      rw [m_X8_runScript_L57, if_pos (by rw [ht.1, e, z_le (by omega) (by omega)]; omega)]
      rfl
theorem g_run (h : FR S w) : ∃ w', m_X8_runScript w = some ((o_run S).1, w') ∧ FR (o_run S).2 w' := by
  obtain ⟨T, H, X⟩ := S
  obtain ⟨h1, h2, h3, h4⟩ := id h
  dsimp only at h1 h2 h3 h4
  have hX := h4.2.2.1
  have hF := FUb
  have hnp := it_np h2.1.B
  obtain ⟨w1, ew⟩ : ∃ w1, w1 = wset w 0 10 (nI 0) := ⟨_, rfl⟩
  have f1 : FrK w w1 := by rw [ew]; exact FrK.s (by omega)
  have ht1 := text_x h4 f1.x
  obtain ⟨k1, w2, a1, a2, a3, a4, a5, a6, a7, a8⟩ := r_skip (tt_nu T 0) (k := 0) (Nat.zero_le _) ht1 (by rw [ew, wset_same, upd_s])
  have f2 : FrK w w2 := f1.tr a5
  have emp : mpar (tt_nu T 0) X 0 0 0 0 = mp (tt_nu T 0) X 0 0 0 k1 := a8 0 0 0
  have fr : ∀ {w' : Wd}, FrK w w' → FR (T, H, X) w' := fun f => ⟨by rw [f.1 1 (by omega)]; exact h1, h2, hist_w h3 (f.1 2 (by omega)) (f.2 3 (by omega) (by omega) (by omega) (by omega)), text_x h4 f.x⟩
  have r2 : RepR T (w2 1) := (fr f2).1
  unfold o_run
  dsimp only
  rw [emp, m_X8_runScript, ← ew, lt_eq, a3, b_b]
  rcases r_run_L9 (T := T) (X := X) h2.1.B (fun w3 => some (((-10 : Int32) - (w3 0 10)), w3)) (fun w4 =>
    (m_X8_hold w4).bind fun o5 =>
    lt (wset o5 0 10 (nI 0)) fun w6 =>
    (m_X8_skips w6).bind fun o7 =>
    m_X8_runScript_L57 (fun x1_8 w9 =>
      lt (wset w9 0 5 (nI 0)) fun w10 =>
      (m_X8_ends x1_8 w10).bind fun o11 =>
      some (o11.1, o11.2)) FU (nI 0) o7) X.length FU k1 w2 (by omega) (by omega) a2 r2 (text_x ht1 a5.x) a4 a7 with ⟨e, w3, b1, b2, b3, b4⟩ | ⟨L, w3, b1, b2, b3⟩
  · rw [b1, b4, b3]
    exact ⟨w3, rfl, fr (f2.tr b2)⟩
  · rw [b1, b3]
    obtain ⟨w4, c1, c2, c3⟩ := fr_hold (fr (f2.tr b2))
    dsimp only at c2 c3
    obtain ⟨w5, ew5⟩ : ∃ w5, w5 = wset w4 0 10 (nI 0) := ⟨_, rfl⟩
    have f5 : FrK w4 w5 := by rw [ew5]; exact FrK.s (by omega)
    have h5 := c2.x f5.x
    obtain ⟨k2, w6, d1, d2, d3, d4, d5, d6, d7, d8⟩ := r_skip (tt_nu T 0) (k := 0) (Nat.zero_le _) h5.2.2.2 (by rw [ew5, wset_same, upd_s])
    have h6 := h5.x d5.x
    have e2 : mp (tt_nu T 0) X 0 0 0 k2 = .inr L := by rw [← d8 0 0 0, ← b3]; exact a8 0 0 0
    have r6 : RepR T (w6 1) := by rw [d5.1 1 (by omega), f5.1 1 (by omega)]; exact c3
    obtain ⟨w7, g1, g2, g3⟩ := r_run_L57 (np := tt_nu T 0) (X := X) (fun x1_8 w9 =>
      lt (wset w9 0 5 (nI 0)) fun w10 =>
      (m_X8_ends x1_8 w10).bind fun o11 =>
      some (o11.1, o11.2)) X.length FU k2 0 L T w6 (by omega) (by omega) d2 r6 h2 rfl h6.2.2.2 d4 d7 e2
    have h7 := h6.x g3
    have h8 : HR T H [] (wset w7 0 5 (nI 0)) := ⟨by rw [wset_ne (by omega)]; exact h7.1, h7.2.1, hist_w h7.2.2.1 (by rw [wset_ne (by omega)]) (by rw [wset_same, upd_n (by omega)]), by rw [wset_same, upd_s]; rfl, ⟨rfl, fun k x hx => by simp at hx⟩, Nat.zero_le _, fun x hx => by cases hx⟩
    obtain ⟨w8, q1, q2⟩ := fr_end h8 (T' := (runL L T).2) (by rw [wset_ne (by omega)]; exact g2) (iq_run L h2) (nI (runL L T).1)
    rw [c1, b_b, ← ew5, lt_eq, d3, b_b, g1, Nat.zero_add, lt_eq, q1, b_b]
    exact ⟨w8, rfl, q2⟩
end RRUN
