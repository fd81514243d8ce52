/-! ===== what the network does ===== -/
/-- an argument as a number: what is below 0 counts as far too large -/
def dn (x : Int32) : Nat := if x < 0 then 4294967296 else x.toNatClampNeg
theorem dn_nI {n : Nat} (h : n < 2 ^ 31) : dn (nI n) = n := by
  unfold dn
  rw [if_neg (nI_pos h), nI_clamp h]
theorem dn_neg {x : Int32} (h : x < 0) : dn x = 4294967296 := if_pos h
def fst2 {α β : Type} (x : α × β) : α := x.1
section OPSC
variable {T : TT} {w : Wd}
def sp_addProxy (T : TT) (p : Nat) : Int32 × TT := if p < tt_nu T 0 then (if tt_nu T 0 < 8 then (nI (tt_nu T 0), ts_nu (ts_pa T (va_up (tt_pa T) (tt_nu T 0) p)) (va_up (tt_nu T) 0 (tt_nu T 0 + 1))) else (-3, T)) else (-1, T)
theorem e_insertProxy (h : RepC 0 T w) (I : InvT T) (x : Int32) : ∃ w', m_X3_insertProxy x w = some ((sp_addProxy T (dn x)).1, w') ∧ RepC 0 (sp_addProxy T (dn x)).2 w' ∧ Fr w w' := by
  have IB := I.B
  have hnp := it_np IB
  rw [m_X3_insertProxy]
  rcases z_or x with hx | ⟨p, hp, rfl⟩
  · rw [dn_neg hx, e_hasProxy_neg hx, b_b, if_neg (by decide)]
    have e : sp_addProxy T 4294967296 = (-1, T) := if_neg (by omega)
    rw [e]
    exact ⟨w, rfl, h, Fr.rf⟩
  rw [dn_nI hp]
  by_cases c : p < tt_nu T 0
  · rw [e_hasProxy h IB c, b_b, if_pos (by decide), rc_nu h (by omega)]
    by_cases d : tt_nu T 0 < 8
    · have es : sp_addProxy T p = (nI (tt_nu T 0), ts_nu (ts_pa T (va_up (tt_pa T) (tt_nu T 0) p)) (va_up (tt_nu T) 0 (tt_nu T 0 + 1))) := by rw [sp_addProxy, if_pos c, if_pos d]
      rw [if_pos (by rw [z_lt (by omega) (by omega)]; exact d), es]
      have h1 := rc_set_pa h (tt_nu T 0) p
      have h2 := rc_set_nu h1 0 (tt_nu T 0 + 1)
      refine ⟨_, ?_, h2, (Fr.set (by omega)).tr (Fr.set (by omega))⟩
      rw [m_X5_addChild, lt_eq, rc_nu h (by omega), if_neg (nI_pos (by omega)), if_neg (by rw [z_le (by omega) (by omega)]; omega), if_pos (by rw [z_ib (by omega)]; exact d), lt_eq, lt_eq, nI_clamp (by omega), rc_nu h1 (by omega), b_b]
      show some (_, wset _ 50 0 (nI (tt_nu T 0) + nI 1)) = _
      rw [nI_add]
    · have es : sp_addProxy T p = (-3, T) := by rw [sp_addProxy, if_pos c, if_neg d]
      rw [if_neg (by rw [z_lt (by omega) (by omega)]; exact d), es]
      exact ⟨w, rfl, h, Fr.rf⟩
  · rw [e_hasProxy_no h IB (by omega) hp, b_b, if_neg (by decide)]
    have e : sp_addProxy T p = (-1, T) := if_neg c
    rw [e]
    exact ⟨w, rfl, h, Fr.rf⟩
def sp_setHome (T : TT) (o p : Nat) : Int32 × TT := if o < 4 ∧ p < tt_nu T 0 then (if 0 < tt_wr T o then (-2, T) else (nI (tt_ho T o), ts_ho T (va_up (tt_ho T) o p))) else (-1, T)
theorem e_changeHome (h : RepC 0 T w) (I : InvT T) (x y : Int32) : ∃ w', m_X3_changeHome x y w = some ((sp_setHome T (dn x) (dn y)).1, w') ∧ RepC 0 (sp_setHome T (dn x) (dn y)).2 w' ∧ Fr w w' := by
  have IB := I.B
  have hnp := it_np IB
  have bad : ∀ {a b : Nat}, ¬ (a < 4 ∧ b < tt_nu T 0) → ∃ w', some ((-1 : Int32), w) = some ((sp_setHome T a b).1, w') ∧ RepC 0 (sp_setHome T a b).2 w' ∧ Fr w w' := by
    intro a b hab
    have e : sp_setHome T a b = (-1, T) := if_neg hab
    rw [e]
    exact ⟨w, rfl, h, Fr.rf⟩
  rw [m_X3_changeHome]
  rcases z_or x with hx | ⟨o, ho, rfl⟩
  · rw [e_isOrigin_neg hx, b_b, if_pos (by decide)]
    exact bad (by rw [dn_neg hx]; omega)
  rw [dn_nI ho]
  by_cases c : o < 4
  · rw [e_isOrigin c, b_b, if_neg (by decide)]
    rcases z_or y with hy | ⟨p, hp, rfl⟩
    · rw [e_hasProxy_neg hy, b_b, if_neg (by decide)]
      exact bad (by rw [dn_neg hy]; omega)
    rw [dn_nI hp]
    by_cases d : p < tt_nu T 0
    · have hw := it_wr I c
      rw [e_hasProxy h IB d, b_b, if_pos (by decide), e_writtenOf h c, b_b]
      by_cases g : 0 < tt_wr T o
      · have es : sp_setHome T o p = (-2, T) := by rw [sp_setHome, if_pos ⟨c, d⟩, if_pos g]
        rw [if_neg (by rw [z_le0 (by omega)]; omega), es]
        exact ⟨w, rfl, h, Fr.rf⟩
      · have es : sp_setHome T o p = (nI (tt_ho T o), ts_ho T (va_up (tt_ho T) o p)) := by rw [sp_setHome, if_pos ⟨c, d⟩, if_neg g]
        rw [if_pos (by rw [z_le0 (by omega)]; omega), es]
        refine ⟨_, ?_, rc_set_ho h o p, Fr.set (by omega)⟩
        rw [e_homeOf h c, b_b, m_X5_setHomeOf, if_neg (nI_pos (by omega)), if_neg (by rw [z_le (by omega) (by omega)]; omega), if_pos (by rw [z_ib (by omega)]; exact c), lt_eq, nI_clamp (by omega), b_b]
    · rw [e_hasProxy_no h IB (by omega) hp, b_b, if_neg (by decide)]
      exact bad (fun q => d q.2)
  · rw [e_isOrigin_no (by omega) ho, b_b, if_pos (by decide)]
    exact bad (fun q => c q.1)
def sp_setLimits (T : TT) (r m : Nat) : Int32 × TT := if r ≤ 8 ∧ 1 ≤ m ∧ m ≤ 12 then (nI (if r = tt_nu T 1 ∧ m = tt_nu T 2 then 0 else 1), ts_nu T (va_up (va_up (tt_nu T) 1 r) 2 m)) else (-1, T)
theorem e_changeLimits (h : RepC 0 T w) (I : InvT T) (x y : Int32) : ∃ w', m_X3_changeLimits x y w = some ((sp_setLimits T (dn x) (dn y)).1, w') ∧ RepC 0 (sp_setLimits T (dn x) (dn y)).2 w' ∧ Fr w w' := by
  have hrl := I.2.1
  have hme := I.2.2.1
  have bad : ∀ {a b : Nat}, ¬ (a ≤ 8 ∧ 1 ≤ b ∧ b ≤ 12) → ∃ w', some ((-1 : Int32), w) = some ((sp_setLimits T a b).1, w') ∧ RepC 0 (sp_setLimits T a b).2 w' ∧ Fr w w' := by
    intro a b hab
    have e : sp_setLimits T a b = (-1, T) := if_neg hab
    rw [e]
    exact ⟨w, rfl, h, Fr.rf⟩
  rw [m_X3_changeLimits]
  rcases z_or x with hx | ⟨r, hr, rfl⟩
  · rw [if_pos hx]
    exact bad (by rw [dn_neg hx]; omega)
  rw [dn_nI hr, if_neg (nI_pos hr)]
  by_cases c : r ≤ 8
  · rw [if_neg (by rw [z_lt (by omega) (by omega)]; omega)]
    rcases z_or y with hy | ⟨m, hm, rfl⟩
    · have hy1 : y < nI 1 := by
        rw [fa_lt] at hy ⊢
        have e1 : (0 : Int32).toInt = 0 := by decide
        have e2 : (nI 1).toInt = 1 := by decide
        omega
      rw [if_pos hy1]
      exact bad (by rw [dn_neg hy]; omega)
    rw [dn_nI hm]
    by_cases d : 1 ≤ m
    · rw [if_neg (by rw [z_lt (by omega) (by omega)]; omega)]
      by_cases g : m ≤ 12
      · rw [if_pos (by rw [z_le (by omega) (by omega)]; exact g), rc_nu h (by omega), rc_nu h (by omega)]
        simp only [m_X3_changeLimits_j45, m_X3_changeLimits_j50, lt_eq]
        have es : sp_setLimits T r m = (nI (if r = tt_nu T 1 ∧ m = tt_nu T 2 then 0 else 1), ts_nu T (va_up (va_up (tt_nu T) 1 r) 2 m)) := by rw [sp_setLimits, if_pos ⟨c, d, g⟩]
        rw [es]
        have h2 := rc_set_nu (rc_set_nu h 1 r) 2 m
        by_cases k : r = tt_nu T 1
        · rw [if_neg (by rw [z_eq (by omega) (by omega)]; exact fun q => q k)]
          by_cases k2 : m = tt_nu T 2
          · rw [if_pos (by rw [k2]), if_pos (by decide)]
            have e0 : (if r = tt_nu T 1 ∧ m = tt_nu T 2 then 0 else 1) = 0 := if_pos ⟨k, k2⟩
            rw [e0]
            exact ⟨_, rfl, h2, (Fr.set (by omega)).tr (Fr.set (by omega))⟩
          · rw [if_neg (by rw [z_eq (by omega) (by omega)]; exact k2), if_neg (by decide)]
            simp only [k2, and_false, if_false]
            exact ⟨_, rfl, h2, (Fr.set (by omega)).tr (Fr.set (by omega))⟩
        · rw [if_pos (by rw [z_eq (by omega) (by omega)]; exact k), if_neg (by decide)]
          simp only [k, false_and, if_false]
          exact ⟨_, rfl, h2, (Fr.set (by omega)).tr (Fr.set (by omega))⟩
      · rw [if_neg (by rw [z_le (by omega) (by omega)]; exact g)]
        exact bad (fun q => g q.2.2)
    · rw [if_pos (by rw [z_lt (by omega) (by omega)]; omega)]
      exact bad (fun q => d q.2.1)
  · rw [if_pos (by rw [z_lt (by omega) (by omega)]; omega)]
    exact bad (fun q => c q.1)
/-- the line of a queue -/
def qi (c d : Nat) : Nat := if d = 0 then 8 + c else 16 + c
theorem e_hasQueue (h : RepC 0 T w) (I : InvB T) (x y : Int32) : m_X5_hasQueue x y w = some (nI (if (1 ≤ dn x ∧ dn x < tt_nu T 0) ∧ dn y < 2 then 1 else 0)) := by
  have hnp := it_np I
  rw [m_X5_hasQueue]
  rcases z_or x with hx | ⟨c, hc, rfl⟩
  · rw [e_hasChild_neg hx, b_b, if_pos (by decide), dn_neg hx, if_neg (by omega)]
  rw [dn_nI hc]
  by_cases a : 1 ≤ c ∧ c < tt_nu T 0
  · rw [e_hasChild h I a.1 a.2, b_b, if_neg (by decide)]
    simp only [m_X5_hasQueue_j17]
    rcases z_or y with hy | ⟨d, hd, rfl⟩
    · rw [dn_neg hy, if_neg (by rintro rfl; exact absurd hy (by decide)), if_pos (by rintro rfl; exact absurd hy (by decide)), if_neg (by omega)]
    · rw [dn_nI hd]
      by_cases b : d = 0
      · rw [if_pos (by rw [z_eq0 hd]; exact b), if_pos ⟨a, by omega⟩]
      · rw [if_neg (by rw [z_eq0 hd]; exact b)]
        by_cases b2 : d = 1
        · rw [if_neg (by rw [b2]; simp), if_pos ⟨a, by omega⟩]
        · rw [if_pos (by rw [z_eq hd (by omega)]; exact b2), if_neg (by omega)]
  · rw [e_hasChild_no h I (by omega) hc, b_b, if_pos (by decide), if_neg (fun q => a q.1)]
theorem e_queueOf (h : RepC 0 T w) (I : InvB T) {c d : Nat} (h1 : 1 ≤ c) (hc : c < tt_nu T 0) (hd : d < 2) : m_X5_queueOf (nI c) (nI d) w = some (2 * qi c d) := by
  unfold qi
  rcases (show d = 0 ∨ d = 1 by omega) with rfl | rfl
  · rw [e_queueUp h I h1 hc, if_pos rfl]
  · rw [e_queueDown h I h1 hc, if_neg (by omega)]
theorem e_takeable (x : Int32) : m_X3_isTakeable x = some (nI (if 1 ≤ dn x ∧ dn x ≤ 9 then 1 else 0)) := by
  rcases z_or x with hx | ⟨n, hn, rfl⟩
  · rw [e_isTakeable_neg hx, dn_neg hx, if_neg (by omega)]
  · rw [dn_nI hn]
    by_cases c : 1 ≤ n ∧ n ≤ 9
    · rw [e_isTakeable c.1 c.2, if_pos c]
    · rw [e_isTakeable_no (by omega) hn, if_neg c]
def sp_lose (T : TT) (c d n : Nat) : Int32 × TT := if ((1 ≤ c ∧ c < tt_nu T 0) ∧ d < 2) ∧ 1 ≤ n ∧ n ≤ 9 then (if (tt_li T (qi c d)).length = 0 then (-2, T) else (nI (min n (tt_li T (qi c d)).length), ts_nu (ts_li T (va_up (tt_li T) (qi c d) ((tt_li T (qi c d)).drop (min n (tt_li T (qi c d)).length)))) (va_up (tt_nu T) 5 (tt_nu T 5 + min n (tt_li T (qi c d)).length)))) else (-1, T)
theorem e_lose_L {q : Nat} (hq : q < 24) (kx : Wd → Option (Int32 × Wd)) (m : Nat) (hm : m < 1000) : ∀ (d n k : Nat) (T : TT) (w : Wd), k + d = m → d < n → RepC 0 T w → d ≤ (tt_li T q).length → (tt_li T q).length ≤ lroom (2 * q) → ∃ w', m_X3_loseFirst_L57 (2 * q) (nI m) kx n (nI k) w = kx w' ∧ RepC 0 (ts_li T (va_up (tt_li T) q ((tt_li T q).drop d))) w' ∧ Fr w w' := by
  intro d
  induction d with
  | zero =>
    intro n k T w hk hn h hl hr
    obtain ⟨n, rfl⟩ : ∃ m, n = m + 1 := ⟨n - 1, by omega⟩
    refine ⟨w, by rw [m_X3_loseFirst_L57, if_pos (by rw [z_le (by omega) (by omega)]; omega)], ?_, Fr.rf⟩
    have e : va_up (tt_li T) q ((tt_li T q).drop 0) = tt_li T := by
      funext j
      by_cases c : j = q
      · subst c; rw [up_s]; rfl
      · rw [up_n c]
    rw [e]
    exact h
  | succ d ih =>
    intro n k T w hk hn h hl hr
    obtain ⟨n, rfl⟩ : ∃ m, n = m + 1 := ⟨n - 1, by omega⟩
    obtain ⟨w1, a1, a2, a3⟩ := e_removeAt (rc_li h hq) hr (lrb q hq) (k := 0) (by omega)
    have h1 := rc_set_li h hq a2 a3
    have hl0 : (tt_li T q).eraseIdx 0 = (tt_li T q).drop 1 := by simp
    rw [hl0] at h1
    have e1 : tt_li (ts_li T (va_up (tt_li T) q ((tt_li T q).drop 1))) q = (tt_li T q).drop 1 := up_s _ _ _
    obtain ⟨w', b1, b2, b3⟩ := ih n (k + 1) (ts_li T (va_up (tt_li T) q ((tt_li T q).drop 1))) w1 (by omega) (by omega) h1 (by rw [e1, List.length_drop]; omega) (by rw [e1, List.length_drop]; omega)
    refine ⟨w', ?_, ?_, (Fr.li hq a3).tr b3⟩
    · rw [m_X3_loseFirst_L57, if_neg (by rw [z_le (by omega) (by omega)]; omega), a1, b_b, nI_add]
      exact b1
    · rw [e1, List.drop_drop] at b2
      have e2 : va_up (tt_li (ts_li T (va_up (tt_li T) q ((tt_li T q).drop 1)))) q ((tt_li T q).drop (1 + d)) = va_up (tt_li T) q ((tt_li T q).drop (d + 1)) := by
        funext j
        show va_up (va_up (tt_li T) q _) q _ j = _
        by_cases c : j = q
        · subst c; rw [up_s, up_s, Nat.add_comm]
        · rw [up_n c, up_n c, up_n c]
      rw [e2] at b2
      exact b2
theorem e_loseFirst (h : RepC 0 T w) (I : InvT T) (x y z : Int32) : ∃ w', m_X3_loseFirst x y z w = some ((sp_lose T (dn x) (dn y) (dn z)).1, w') ∧ RepC 0 (sp_lose T (dn x) (dn y) (dn z)).2 w' ∧ Fr w w' := by
  have IB := I.B
  have hnp := it_np IB
  have hF := FUb
  have bad : ¬ (((1 ≤ dn x ∧ dn x < tt_nu T 0) ∧ dn y < 2) ∧ 1 ≤ dn z ∧ dn z ≤ 9) → ∃ w', some ((-1 : Int32), w) = some ((sp_lose T (dn x) (dn y) (dn z)).1, w') ∧ RepC 0 (sp_lose T (dn x) (dn y) (dn z)).2 w' ∧ Fr w w' := by
    intro hab
    have e : sp_lose T (dn x) (dn y) (dn z) = (-1, T) := if_neg hab
    rw [e]
    exact ⟨w, rfl, h, Fr.rf⟩
  rw [m_X3_loseFirst, e_hasQueue h IB, b_b]
  by_cases a : (1 ≤ dn x ∧ dn x < tt_nu T 0) ∧ dn y < 2
  · rw [if_pos a, if_neg (by decide), e_takeable, b_b]
    by_cases b : 1 ≤ dn z ∧ dn z ≤ 9
    · rw [if_pos b, if_pos (by decide)]
      rcases z_or x with hx | ⟨c, hc, rfl⟩
      · rw [dn_neg hx] at a; omega
      rcases z_or y with hy | ⟨d, hd, rfl⟩
      · rw [dn_neg hy] at a; omega
      rcases z_or z with hz | ⟨n, hn, rfl⟩
      · rw [dn_neg hz] at b; omega
      rw [dn_nI hc, dn_nI hd] at a
      rw [dn_nI hn] at b
      rw [dn_nI hc, dn_nI hd, dn_nI hn]
      have hqi : 8 ≤ qi c d ∧ qi c d < 24 ∧ qi c d ≠ 8 ∧ qi c d ≠ 16 := by unfold qi; split <;> omega
      have hl := rc_li h hqi.2.1
      have hl12 := it_q12 I _ hqi.1 hqi.2.1
      have hr := lrq _ hqi.2.1 hqi.1 hqi.2.2.1 hqi.2.2.2
      rw [e_queueOf h IB a.1.1 a.1.2 a.2, b_b, e_len hl, b_b]
      by_cases g : (tt_li T (qi c d)).length = 0
      · have es : sp_lose T c d n = (-2, T) := by rw [sp_lose, if_pos ⟨a, b⟩, if_pos g]
        rw [if_neg (by rw [g]; decide), es]
        exact ⟨w, rfl, h, Fr.rf⟩
      · have es : sp_lose T c d n = (nI (min n (tt_li T (qi c d)).length), ts_nu (ts_li T (va_up (tt_li T) (qi c d) ((tt_li T (qi c d)).drop (min n (tt_li T (qi c d)).length)))) (va_up (tt_nu T) 5 (tt_nu T 5 + min n (tt_li T (qi c d)).length))) := by rw [sp_lose, if_pos ⟨a, b⟩, if_neg g]
        rw [if_pos (by rw [z_eq0 (by omega)]; exact g), es, b_b, lt_eq]
        have em : (if nI (tt_li T (qi c d)).length < nI n then nI (tt_li T (qi c d)).length else nI n) = nI (min n (tt_li T (qi c d)).length) := by
          by_cases k : (tt_li T (qi c d)).length < n
          · rw [if_pos (by rw [z_lt (by omega) (by omega)]; exact k), Nat.min_eq_right (by omega)]
          · rw [if_neg (by rw [z_lt (by omega) (by omega)]; exact k), Nat.min_eq_left (by omega)]
        rw [em]
        have hmin : min n (tt_li T (qi c d)).length ≤ (tt_li T (qi c d)).length := Nat.min_le_right _ _
        generalize min n (tt_li T (qi c d)).length = m at hmin ⊢
        obtain ⟨w1, k1, k2, k3⟩ := e_lose_L hqi.2.1 (fun w7 => lt (wset w7 50 5 ((w7 50 5) + nI m)) fun w8 => some (nI m, w8)) m (by omega) m FU 0 T w (by omega) (by omega) h hmin (by omega)
        refine ⟨_, ?_, rc_set_nu k2 5 (tt_nu T 5 + m), k3.tr (Fr.set (by omega))⟩
        rw [k1, lt_eq, rc_nu k2 (by omega), nI_add]
    · rw [if_neg b, if_neg (by decide)]
      exact bad (fun q => b q.2)
  · rw [if_neg a, if_pos (by decide)]
    exact bad (fun q => a q.1)
end OPSC
