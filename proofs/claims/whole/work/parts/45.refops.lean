/-! ===== the reference: write, deliver, lose ===== -/
theorem up_up {α : Type} (f : Nat → α) (k : Nat) (a b : α) : va_up (va_up f k a) k b = va_up f k b := by
  funext j
  by_cases c : j = k
  · subst c; rw [up_s, up_s]
  · rw [up_n c, up_n c, up_n c]
theorem up_self {α : Type} (f : Nat → α) (k : Nat) : va_up f k (f k) = f := by
  funext j
  by_cases c : j = k
  · subst c; rw [up_s]
  · rw [up_n c]
theorem qi_eq {c d : Nat} (hd : d < 2) : qi c d = 8 + 8 * d + c := by
  unfold qi
  rcases (show d = 0 ∨ d = 1 by omega) with rfl | rfl
  · rw [if_pos rfl]
  · rw [if_neg (by omega)]
theorem keep_li (T : TT) {p : Nat} (u : Nat) {q : Nat} (hq : q ≠ p) : tt_li (keep T p u) q = tt_li T q := by
  have l : tt_li (addLi T p u) q = tt_li T q := up_n hq
  unfold keep
  split
  · exact l
  · show va_up (tt_li (addLi T p u)) p _ q = _
    rw [up_n hq]; exact l
theorem enq_li (T : TT) {i : Nat} (u : Nat) {q : Nat} (hq : q ≠ i) : tt_li (enq T i u) q = tt_li T q := by
  unfold enq
  split
  · exact up_n hq
  · rfl
theorem pdown_li {p fr u q : Nat} : ∀ (n c : Nat) (T : TT), c + n ≤ 8 → (∀ e, c ≤ e → e < c + n → tt_pa T e = p → e ≠ fr → q ≠ 16 + e) → tt_li (pdown p fr u n c T) q = tt_li T q := by
  intro n
  induction n with
  | zero => intro c T _ _; rfl
  | succ n ih =>
    intro c T hc hq
    rw [pdown]
    have hpa : tt_pa (pdStep T p fr u c) = tt_pa T := by
      unfold pdStep
      split
      · exact enq_pa
      · rfl
    rw [ih (c + 1) _ (by omega) (fun e e1 e2 e3 e4 => hq e (by omega) (by omega) (by rw [hpa] at e3; exact e3) e4)]
    unfold pdStep
    split
    · rename_i g
      exact enq_li T u (hq c (Nat.le_refl _) (by omega) g.2 g.1)
    · rfl
theorem learn_li {T : TT} (I : InvB T) {p fr u q : Nat} (hp : p < 8) (hq : 8 ≤ q) (h1 : q ≠ 8 + p) (h2 : ∀ e, 1 ≤ e → e < 8 → tt_pa T e = p → e ≠ fr → q ≠ 16 + e) : tt_li (learn T p fr u) q = tt_li T q := by
  have hnp := it_np I
  have kfx := keep_fx (addKn T p (u / 100) (u % 100)) hp u
  have hnu : tt_nu (keep (addKn T p (u / 100) (u % 100)) p u) 0 = tt_nu T 0 := kfx.2.2.2.2.1
  have hpa : tt_pa (keep (addKn T p (u / 100) (u % 100)) p u) = tt_pa T := kfx.1
  unfold learn passOn
  rw [hnu]
  have e1 : tt_li (if p ≠ 0 ∧ tt_pa (keep (addKn T p (u / 100) (u % 100)) p u) p ≠ fr then enq (keep (addKn T p (u / 100) (u % 100)) p u) (8 + p) u else keep (addKn T p (u / 100) (u % 100)) p u) q = tt_li T q := by
    have k : tt_li (keep (addKn T p (u / 100) (u % 100)) p u) q = tt_li T q := keep_li _ u (by omega)
    split
    · rw [enq_li _ u h1]; exact k
    · exact k
  have e2 : tt_pa (if p ≠ 0 ∧ tt_pa (keep (addKn T p (u / 100) (u % 100)) p u) p ≠ fr then enq (keep (addKn T p (u / 100) (u % 100)) p u) (8 + p) u else keep (addKn T p (u / 100) (u % 100)) p u) = tt_pa T := by
    split
    · rw [enq_pa]; exact hpa
    · exact hpa
  rw [pdown_li _ _ _ (by omega) (fun e a b c d => h2 e a (by omega) (by rw [e2] at c; exact c) d), e1]
theorem arrive_li {T : TT} (I : InvB T) {p fr u q : Nat} (hp : p < 8) (hq : 8 ≤ q) (h1 : q ≠ 8 + p) (h2 : ∀ e, 1 ≤ e → e < 8 → tt_pa T e = p → e ≠ fr → q ≠ 16 + e) : tt_li (arrive T p fr u) q = tt_li T q := by
  unfold arrive
  split
  · rfl
  · split
    · rfl
    · exact learn_li I hp hq h1 h2
/-- what a queue delivers doesn't come back to it -/
theorem arrive_q {T : TT} (I : InvT T) {c d u : Nat} (h1 : 1 ≤ c) (hc : c < 8) : tt_li (arrive T (if d = 0 then tt_pa T c else c) (if d = 0 then c else tt_pa T c) u) (qi c d) = tt_li T (qi c d) := by
  have hpa := I.2.2.2.1.2 c h1 hc
  by_cases g : d = 0
  · rw [if_pos g, if_pos g]
    unfold qi
    rw [if_pos g]
    exact arrive_li I.B (by omega) (by omega) (by omega) (fun e _ _ _ _ => by omega)
  · rw [if_neg g, if_neg g]
    unfold qi
    rw [if_neg g]
    refine arrive_li I.B (by omega) (by omega) (by omega) (fun e e1 e8 ea _ => ?_)
    have := I.2.2.2.1.2 e e1 e8
    omega
theorem arrive_new {T : TT} {p fr u : Nat} (hk : tt_kn T (4 * p + u / 100) (u % 100) = false) (hf : 8 ≤ fr) : arrive T p fr u = learn T p fr u := by
  have e : arrTold T p fr u = 1 := by
    unfold arrTold
    rw [hk, if_neg (by decide), if_neg (fun q => by have := q.2.1; omega)]
  unfold arrive
  rw [e, if_neg (by omega), if_neg (by omega)]
section ROPS
variable {T : TT} {w : Wd}
theorem r_m_step (h : RepR T (w 1)) {P : Nat → Nat} (hP : RepS w P) {o v f : Nat} (x2 : Int32) (ho : o < 4) (hv : v < 24) (hf : f < 4) (kx : Wd → Option (Int32 × Wd)) (n : Nat) : ∃ w', m_X8_makes_L56 (nI o) x2 (nI (v + 1)) kx (n + 1) (nI f) w = m_X8_makes_L56 (nI o) x2 (nI (v + 1)) kx n (nI (f + 1)) w' ∧ RepR (ts_ca T (va_up (tt_ca T) (96 * o + 4 * v + f) (if f = o then v else P f))) (w' 1) ∧ (∀ k, k ≠ 1 → w' k = w k) := by
  have ei : (((nI 23) + ((nI 96) * nI o)) + ((nI 4) * (nI (v + 1) - (nI 1)))) + nI f = nI (23 + (96 * o + 4 * v + f)) := by
    rw [z_sub (by omega), Nat.add_sub_cancel, pk_mul, pk_mul, nI_add, nI_add, nI_add]
    congr 1
    omega
  have j : ∀ x, m_X8_makes_j101 (nI o) x2 (nI (v + 1)) (nI f) (nI (23 + (96 * o + 4 * v + f))) (nI x) w (m_X8_makes_L56 (nI o) x2 (nI (v + 1)) kx n) kx = m_X8_makes_L56 (nI o) x2 (nI (v + 1)) kx n (nI (f + 1)) (wset w 1 (23 + (96 * o + 4 * v + f)) (nI x)) := by
    intro x
    rw [m_X8_makes_j101, if_pos (ib_n (by omega) (by omega)), nI_clamp (by omega), lt_eq, nI_add]
  have fin : ∀ x, RepR (ts_ca T (va_up (tt_ca T) (96 * o + 4 * v + f) x)) (wset w 1 (23 + (96 * o + 4 * v + f)) (nI x) 1) := by
    intro x
    rw [w1_set]
    exact rr_set_ca h (by omega) x
  rw [m_X8_makes_L56, if_neg (by rw [z_le (by omega) (by omega)]; omega), ei]
  by_cases c : f = o
  · refine ⟨_, ?_, by rw [if_pos c]; exact fin v, fun k hk => wset_ne hk⟩
    rw [if_neg (by rw [c]; exact fun q => q rfl), z_sub (by omega), Nat.add_sub_cancel, j]
  · refine ⟨_, ?_, by rw [if_neg c]; exact fin (P f), fun k hk => wset_ne hk⟩
    rw [if_pos (by rw [z_eq (by omega) (by omega)]; exact c), if_pos (ib_n (by omega) (by omega)), nI_clamp (show f < 2 ^ 31 by omega), hP f hf, j]
theorem r_makes (h : RepR T (w 1)) (I : InvT T) (x : Int32) : ∃ w', m_X8_makes x w = some ((sp_write T (dn x)).1, w') ∧ RepR (sp_write T (dn x)).2 (w' 1) ∧ FrR w w' := by
  have IB := I.B
  have hnp := it_np IB
  rw [m_X8_makes, r_isOrigin, b_b]
  by_cases ho : dn x < 4
  · have ex := dn_lt ho (by omega)
    generalize dn x = o at *
    subst ex
    have h24 := it_wr I ho
    have hh := I.2.2.2.2.1 o ho
    rw [if_pos ho, if_pos (by decide), nI_add, if_pos (ib_n (by omega) (by omega))]
    by_cases hw : tt_wr T o < 24
    · have hk : tt_kn T (4 * tt_ho T o + o) (tt_wr T o + 1) = false := by
        cases q : tt_kn T (4 * tt_ho T o + o) (tt_wr T o + 1) with
        | false => rfl
        | true => have := (I.2.2.2.2.2.2.2.2.1 _ o _ (by omega) ho q).2; omega
      have es : sp_write T o = (nI (tt_wr T o + 1), learn (wrT T o) (tt_ho T o) 8 (100 * o + (tt_wr T o + 1))) := by
        rw [sp_write, if_pos ho, if_pos hw, arrive_new ?_ (Nat.le_refl _)]
        rw [show (100 * o + (tt_wr T o + 1)) / 100 = o by omega, show (100 * o + (tt_wr T o + 1)) % 100 = tt_wr T o + 1 by omega]
        exact hk
      obtain ⟨w0, c1, c2, c3⟩ := r_serves h IB (p := tt_ho T o) (by omega)
      have h0 := rr_5 h c3
      have e3 : w0 1 (nI (19 + o)).toNatClampNeg + nI 1 = nI (tt_wr T o + 1) := by rw [nI_clamp (by omega), rr_wr h0 ho, nI_add]
      have e2 : w 1 (nI (15 + o)).toNatClampNeg = nI (tt_ho T o) := by rw [nI_clamp (by omega), rr_ho h ho]
      rw [if_pos (by rw [nI_clamp (by omega), rr_wr h ho, z_eq (by omega) (by omega)]; omega), nI_add, if_pos (ib_n (by omega) (by omega)), e2, lt_eq, c1, b_b, if_pos (ib_n (by omega) (by omega)), e3, lt_eq, es]
      obtain ⟨n, en, hn⟩ := FU5
      rw [en]
      have mv : ∀ {w w' : Wd}, RepS w (pfx T (tt_ho T o)) → (∀ k, k ≠ 1 → w' k = w k) → RepS w' (pfx T (tt_ho T o)) := fun hP hf f hff => by rw [hf 5 (by omega)]; exact hP f hff
      obtain ⟨w1, a1, a2, a3⟩ := r_m_step h0 c2 (f := 0) (nI (tt_ho T o)) ho hw (by omega) (fun w8 =>
              if ib (nI (19 + o)) 1423 then
              lt (wset w8 1 (nI (19 + o)).toNatClampNeg (nI (tt_wr T o + 1))) fun w10 =>
                (m_X8_learns (nI (tt_ho T o)) (((nI 100) * nI o) + nI (tt_wr T o + 1)) (-9 : Int32) w10).bind fun o11 =>
                some (nI (tt_wr T o + 1), o11)
              else none) (n + 4)
      have p1 := mv c2 a3
      obtain ⟨w2, a4, a5, a6⟩ := r_m_step a2 p1 (f := 1) (nI (tt_ho T o)) ho hw (by omega) (fun w8 =>
              if ib (nI (19 + o)) 1423 then
              lt (wset w8 1 (nI (19 + o)).toNatClampNeg (nI (tt_wr T o + 1))) fun w10 =>
                (m_X8_learns (nI (tt_ho T o)) (((nI 100) * nI o) + nI (tt_wr T o + 1)) (-9 : Int32) w10).bind fun o11 =>
                some (nI (tt_wr T o + 1), o11)
              else none) (n + 3)
      have p2 := mv p1 a6
      obtain ⟨w3, a7, a8, a9⟩ := r_m_step a5 p2 (f := 2) (nI (tt_ho T o)) ho hw (by omega) (fun w8 =>
              if ib (nI (19 + o)) 1423 then
              lt (wset w8 1 (nI (19 + o)).toNatClampNeg (nI (tt_wr T o + 1))) fun w10 =>
                (m_X8_learns (nI (tt_ho T o)) (((nI 100) * nI o) + nI (tt_wr T o + 1)) (-9 : Int32) w10).bind fun o11 =>
                some (nI (tt_wr T o + 1), o11)
              else none) (n + 2)
      have p3 := mv p2 a9
      obtain ⟨w4, b1, b2, b3⟩ := r_m_step a8 p3 (f := 3) (nI (tt_ho T o)) ho hw (by omega) (fun w8 =>
              if ib (nI (19 + o)) 1423 then
              lt (wset w8 1 (nI (19 + o)).toNatClampNeg (nI (tt_wr T o + 1))) fun w10 =>
                (m_X8_learns (nI (tt_ho T o)) (((nI 100) * nI o) + nI (tt_wr T o + 1)) (-9 : Int32) w10).bind fun o11 =>
                some (nI (tt_wr T o + 1), o11)
              else none) (n + 1)
      have h5 : RepR (wrT T o) (wset w4 1 (19 + o) (nI (tt_wr T o + 1)) 1) := by
        rw [w1_set]
        exact rr_set_wr b2 ho _
      obtain ⟨w6, d1, d2, d3⟩ := r_learns h5 (wrT_inv I ho hw) (p := tt_ho T o) (fr := 8) (o := o) (v := tt_wr T o + 1) hh rfl ho (by omega) (by omega) hk
      rw [show frR 8 = -9 from rfl] at d1
      have fr : FrR w w4 := by
        intro k hk h5
        rw [b3 k hk, a9 k hk, a6 k hk, a3 k hk, c3 k h5]
      refine ⟨w6, ?_, d2, fr.tr ((FrR.s (Or.inl rfl)).tr d3)⟩
      rw [a1, a4, a7, b1, m_X8_makes_L56, if_pos (by rw [z_le (by omega) (by omega)]; omega)]
      rw [if_pos (ib_n (by omega) (by omega)), nI_clamp (by omega), lt_eq, pk_mul, nI_add, d1, b_b]
    · have es : sp_write T o = (-3, T) := by rw [sp_write, if_pos ho, if_neg hw]
      rw [if_neg (by rw [nI_clamp (by omega), rr_wr h ho, z_eq (by omega) (by omega)]; omega), es]
      exact ⟨w, rfl, h, FrR.rf⟩
  · have e : sp_write T (dn x) = (-1, T) := if_neg ho
    rw [if_neg ho, if_neg (by decide), e]
    exact ⟨w, rfl, h, FrR.rf⟩
theorem r_isQueue (h : RepR T (w 1)) (I : InvB T) (x y : Int32) : m_X8_isQueue x y w = some (nI (if (1 ≤ dn x ∧ dn x < tt_nu T 0) ∧ dn y < 2 then 1 else 0)) := by
  rw [m_X8_isQueue, r_isChild h I, b_b]
  by_cases a : 1 ≤ dn x ∧ dn x < tt_nu T 0
  · rw [if_pos a, if_neg (by decide), r_in (by omega) (by omega), b_b]
    by_cases b : dn y < 2
    · rw [if_pos (show 0 ≤ dn y ∧ dn y ≤ 1 by omega), if_neg (by decide), if_pos ⟨a, b⟩]
    · rw [if_neg (show ¬ (0 ≤ dn y ∧ dn y ≤ 1) by omega), if_pos (by decide), if_neg (fun q => b q.2)]
  · rw [if_neg a, if_pos (by decide), if_neg (fun q => a q.1)]
theorem r_d_L58 {c d m many : Nat} (h1 : 1 ≤ c) (hc8 : c < 8) (hd : d < 2) (hm : m < 1000) (hmany : many < 1000) (x5 : Int32) : ∀ (n' n k a : Nat) (T : TT) (w : Wd), k + n' = m → n' < n → a + n' < 1000 → RepR T (w 1) → InvT T → c < tt_nu T 0 → x5 = nI (tt_pa T c) → (tt_li T (qi c d)).length + k = many → ∃ w', m_X8_delivers_L58 (nI c) (nI d) (nI m) (nI many) x5 n (nI a) (nI k) w = some (nI (a + (dlv (if d = 0 then tt_pa T c else c) (if d = 0 then c else tt_pa T c) (qi c d) n' T).1), w') ∧ RepR (dlv (if d = 0 then tt_pa T c else c) (if d = 0 then c else tt_pa T c) (qi c d) n' T).2 (w' 1) ∧ FrR w w' := by
  intro n'
  induction n' with
  | zero =>
    intro n k a T w hk hn ha h I hp e5 hl
    obtain ⟨n, rfl⟩ : ∃ m, n = m + 1 := ⟨n - 1, by omega⟩
    exact ⟨w, by rw [m_X8_delivers_L58, if_pos (by rw [z_le (by omega) (by omega)]; omega)]; rfl, h, FrR.rf⟩
  | succ n' ih =>
    intro n k a T w hk hn ha h I hp e5 hl
    obtain ⟨n, rfl⟩ : ∃ m, n = m + 1 := ⟨n - 1, by omega⟩
    have hnp := it_np I.B
    have hqe := qi_eq (c := c) hd
    have hpa := I.2.2.2.1.2 c h1 hc8
    have q8 : 8 ≤ qi c d ∧ qi c d < 24 ∧ qi c d ≠ 8 ∧ qi c d ≠ 16 := by omega
    rw [m_X8_delivers_L58, if_neg (by rw [z_le (by omega) (by omega)]; omega), dlv]
    by_cases g : (tt_li T (qi c d)).length = 0
    · rw [if_pos (by rw [z_le (by omega) (by omega)]; omega), if_pos g]
      exact ⟨w, rfl, h, FrR.rf⟩
    · rw [if_neg (by rw [z_le (by omega) (by omega)]; omega), if_neg g]
      have e0 : (tt_li T (qi c d)).getD 0 0 = (tt_li T (qi c d))[0]'(by omega) := by
        rw [List.getD_eq_getElem?_getD, List.getElem?_eq_getElem (by omega)]; rfl
      have hu : upOk (tt_wr T) ((tt_li T (qi c d)).getD 0 0) := by
        rw [e0]
        exact I.2.2.2.2.2.2.2.2.2.1 _ _ q8.2.1 (List.getElem_mem _)
      obtain ⟨w1, a1, a2, a3⟩ := r_takes h hc8 hd (by rw [← hqe]; exact g)
      rw [← hqe] at a1 a2
      have I1 := drop_inv I q8.1 1
      have hpn : (if d = 0 then tt_pa T c else c) < tt_nu T 0 := by split <;> omega
      have hfn : (if d = 0 then c else tt_pa T c) < 8 := by split <;> omega
      obtain ⟨w2, b1, b2, b3⟩ := r_arrives a2 I1 (p := if d = 0 then tt_pa T c else c) (fr := if d = 0 then c else tt_pa T c) hpn hfn hu
      have I2 := arrive_inv I1 (p := if d = 0 then tt_pa T c else c) (fr := if d = 0 then c else tt_pa T c) (by omega) hu
      have hf := arrive_fx (ts_li T (va_up (tt_li T) (qi c d) ((tt_li T (qi c d)).drop 1))) (p := if d = 0 then tt_pa T c else c) (by omega) (if d = 0 then c else tt_pa T c) ((tt_li T (qi c d)).getD 0 0)
      have hq : tt_li (arrive (ts_li T (va_up (tt_li T) (qi c d) ((tt_li T (qi c d)).drop 1))) (if d = 0 then tt_pa T c else c) (if d = 0 then c else tt_pa T c) ((tt_li T (qi c d)).getD 0 0)) (qi c d) = (tt_li T (qi c d)).drop 1 := by
        have := arrive_q I1 (c := c) (d := d) (u := (tt_li T (qi c d)).getD 0 0) h1 hc8
        rw [show tt_pa (ts_li T (va_up (tt_li T) (qi c d) ((tt_li T (qi c d)).drop 1))) = tt_pa T from rfl] at this
        rw [this]
        exact up_s _ _ _
      have hp2 : tt_pa (arrive (ts_li T (va_up (tt_li T) (qi c d) ((tt_li T (qi c d)).drop 1))) (if d = 0 then tt_pa T c else c) (if d = 0 then c else tt_pa T c) ((tt_li T (qi c d)).getD 0 0)) = tt_pa T := hf.1
      have ht := arrTold_le (ts_li T (va_up (tt_li T) (qi c d) ((tt_li T (qi c d)).drop 1))) (if d = 0 then tt_pa T c else c) (if d = 0 then c else tt_pa T c) ((tt_li T (qi c d)).getD 0 0)
      have both : ∀ kc : Int32 × Wd → Option (Int32 × Wd), (if ¬ nI d = 0 then (m_X8_arrives (nI c) (nI ((tt_li T (qi c d)).getD 0 0)) x5 w1).bind kc else (m_X8_arrives x5 (nI ((tt_li T (qi c d)).getD 0 0)) (nI c) w1).bind kc) = kc (toldR (arrTold (ts_li T (va_up (tt_li T) (qi c d) ((tt_li T (qi c d)).drop 1))) (if d = 0 then tt_pa T c else c) (if d = 0 then c else tt_pa T c) ((tt_li T (qi c d)).getD 0 0)), w2) := by
        intro kc
        by_cases k : d = 0
        · rw [if_neg (by rw [k]; exact fun q => q rfl), e5]
          simp only [if_pos k] at b1 ⊢
          rw [b1, b_b]
        · rw [if_pos (by rw [z_eq0 (by omega)]; exact k), e5]
          simp only [if_neg k] at b1 ⊢
          rw [b1, b_b]
      have b2' := b2
      rw [a1, b_b]
      dsimp only
      rw [both]
      have len2 : (tt_li (arrive (ts_li T (va_up (tt_li T) (qi c d) ((tt_li T (qi c d)).drop 1))) (if d = 0 then tt_pa T c else c) (if d = 0 then c else tt_pa T c) ((tt_li T (qi c d)).getD 0 0)) (qi c d)).length + (k + 1) = many := by
        rw [hq, List.length_drop]; omega
      have ih' := fun n a hn ha => ih n (k + 1) a _ w2 (by omega) hn ha b2 I2 (by rw [hf.2.2.2.2.1]; exact hp) (by rw [hp2]; exact e5) len2
      rw [hp2] at ih'
      generalize arrTold (ts_li T (va_up (tt_li T) (qi c d) ((tt_li T (qi c d)).drop 1))) (if d = 0 then tt_pa T c else c) (if d = 0 then c else tt_pa T c) ((tt_li T (qi c d)).getD 0 0) = t at *
      generalize arrive (ts_li T (va_up (tt_li T) (qi c d) ((tt_li T (qi c d)).drop 1))) (if d = 0 then tt_pa T c else c) (if d = 0 then c else tt_pa T c) ((tt_li T (qi c d)).getD 0 0) = T2 at *
      by_cases g1 : t = 1
      · obtain ⟨w', f1, f2, f3⟩ := ih' n (a + 1) (by omega) (by omega)
        rw [m_X8_delivers_j104, if_neg (by rw [g1]; exact fun q => q rfl), m_X8_delivers_j119, lt_eq, nI_add, nI_add, if_pos g1]
        exact ⟨w', by rw [f1]; congr 3; omega, f2, (a3.tr b3).tr f3⟩
      · obtain ⟨w', f1, f2, f3⟩ := ih' n a (by omega) (by omega)
        have hne : ¬ toldR t = nI 1 := by
          rcases (show t = 0 ∨ t = 2 by omega) with rfl | rfl <;> decide
        rw [m_X8_delivers_j104, if_pos hne, m_X8_delivers_j119, lt_eq, nI_add, nI_add, if_neg g1]
        exact ⟨w', f1, f2, (a3.tr b3).tr f3⟩
theorem r_qsz (h : RepR T (w 1)) {c d : Nat} (hc : c < 8) (hd : d < 2) : m_X8_queueOf (nI c) (nI d) = some (nI (qb (qi c d))) ∧ w 1 (qb (qi c d)) = nI (tt_li T (qi c d)).length ∧ qb (qi c d) + 13 ≤ 1423 ∧ (tt_li T (qi c d)).length ≤ 12 := by
  rw [qi_eq hd]
  have eb : qb (8 + 8 * d + c) = 1215 + 26 * c + 13 * d := by
    unfold qb
    rcases (show d = 0 ∨ d = 1 by omega) with rfl | rfl
    · rw [if_pos (by omega)]; omega
    · rw [if_neg (by omega)]; omega
  refine ⟨?_, (rr_q h (by omega) (by omega)).1, qb_lt (by omega) (by omega), rr_ql h (by omega) (by omega)⟩
  rw [m_X8_queueOf, pk_mul, pk_mul, nI_add, nI_add, eb]
theorem r_delivers (h : RepR T (w 1)) (I : InvT T) (x y z : Int32) : ∃ w', m_X8_delivers x y z w = some ((sp_deliver T (dn x) (dn y) (dn z)).1, w') ∧ RepR (sp_deliver T (dn x) (dn y) (dn z)).2 (w' 1) ∧ FrR w w' := by
  have IB := I.B
  have hnp := it_np IB
  have hF := FUb
  have bad : ¬ (((1 ≤ dn x ∧ dn x < tt_nu T 0) ∧ dn y < 2) ∧ 1 ≤ dn z ∧ dn z ≤ 9) → ∃ w', some ((-1 : Int32), w) = some ((sp_deliver T (dn x) (dn y) (dn z)).1, w') ∧ RepR (sp_deliver T (dn x) (dn y) (dn z)).2 (w' 1) ∧ FrR w w' := by
    intro hab
    have e : sp_deliver T (dn x) (dn y) (dn z) = (-1, T) := if_neg hab
    rw [e]
    exact ⟨w, rfl, h, FrR.rf⟩
  rw [m_X8_delivers, r_isQueue h IB, b_b]
  by_cases a : (1 ≤ dn x ∧ dn x < tt_nu T 0) ∧ dn y < 2
  · rw [if_pos a, if_neg (by decide), r_in (by omega) (by omega), b_b]
    by_cases b : 1 ≤ dn z ∧ dn z ≤ 9
    · rw [if_pos b, if_pos (by decide)]
      have ex := dn_lt a.1.2 (by omega)
      have ey := dn_lt a.2 (by omega)
      have ez := dn_lt (Nat.lt_succ_of_le b.2) (by omega)
      generalize dn x = c at *
      generalize dn y = d at *
      generalize dn z = n at *
      subst ex; subst ey; subst ez
      obtain ⟨q1, q2, q3, q4⟩ := r_qsz h (c := c) (d := d) (by omega) a.2
      have hcl : (nI (qb (qi c d))).toNatClampNeg = qb (qi c d) := nI_clamp (by omega)
      rw [q1, b_b, if_pos (ib_n (by omega) (by omega)), hcl, q2, lt_eq]
      by_cases g : (tt_li T (qi c d)).length = 0
      · have es : sp_deliver T c d n = (-2, T) := by rw [sp_deliver, if_pos ⟨a, b⟩, if_pos g]
        rw [if_neg (by rw [g]; decide), es]
        exact ⟨w, rfl, h, FrR.rf⟩
      · have es : sp_deliver T c d n = (nI (dlv (if d = 0 then tt_pa T c else c) (if d = 0 then c else tt_pa T c) (qi c d) n T).1, (dlv (if d = 0 then tt_pa T c else c) (if d = 0 then c else tt_pa T c) (qi c d) n T).2) := by rw [sp_deliver, if_pos ⟨a, b⟩, if_neg g]
        rw [if_pos (by rw [z_eq0 (by omega)]; exact g), es, nI_add, if_pos (ib_n (by omega) (by omega)), nI_clamp (by omega), rr_pa h a.1.1 (by omega), lt_eq]
        obtain ⟨w', f1, f2, f3⟩ := r_d_L58 (m := n) (many := (tt_li T (qi c d)).length) a.1.1 (by omega) a.2 (by omega) (by omega) (nI (tt_pa T c)) n FU 0 0 T w (by omega) (by omega) (by omega) h I a.1.2 rfl (by omega)
        rw [Nat.zero_add] at f1
        exact ⟨w', f1, f2, f3⟩
    · rw [if_neg b, if_neg (by decide)]
      exact bad (fun q => b q.2)
  · rw [if_neg a, if_pos (by decide)]
    exact bad (fun q => a q.1)
def lsT (T : TT) (q k : Nat) : TT := ts_nu (ts_li T (va_up (tt_li T) q ((tt_li T q).drop k))) (va_up (tt_nu T) 5 (tt_nu T 5 + k))
theorem lsT_0 (T : TT) (q : Nat) : lsT T q 0 = T := by
  unfold lsT
  rw [List.drop_zero, up_self, Nat.add_zero, up_self]
theorem r_lo_L44 {T : TT} (I : InvT T) {c d m : Nat} (h1 : 1 ≤ c) (hc : c < 8) (hd : d < 2) (hm : m < 1000) : ∀ (n' n k : Nat) (w : Wd), k + n' = min m (tt_li T (qi c d)).length → n' < n → RepR (lsT T (qi c d) k) (w 1) → ∃ w', m_X8_loses_L44 (nI c) (nI d) (nI m) (nI (tt_li T (qi c d)).length) n (nI k) w = some (nI (min m (tt_li T (qi c d)).length), w') ∧ RepR (lsT T (qi c d) (min m (tt_li T (qi c d)).length)) (w' 1) ∧ FrR w w' := by
  have hqe := qi_eq (c := c) hd
  have q8 : 8 ≤ qi c d ∧ qi c d < 24 := by omega
  have hl12 := it_q12 I _ q8.1 q8.2
  intro n'
  induction n' with
  | zero =>
    intro n k w hk hn h
    obtain ⟨n, rfl⟩ : ∃ m, n = m + 1 := ⟨n - 1, by omega⟩
    have ek : k = min m (tt_li T (qi c d)).length := by omega
    refine ⟨w, ?_, by rw [← ek]; exact h, FrR.rf⟩
    rw [m_X8_loses_L44, ← ek]
    by_cases g : m ≤ k
    · rw [if_pos (by rw [z_le (by omega) (by omega)]; exact g)]
    · rw [if_neg (by rw [z_le (by omega) (by omega)]; exact g), if_pos (by rw [z_le (by omega) (by omega)]; omega)]
  | succ n' ih =>
    intro n k w hk hn h
    obtain ⟨n, rfl⟩ : ∃ m, n = m + 1 := ⟨n - 1, by omega⟩
    have hlt : k < (tt_li T (qi c d)).length := by omega
    have eli : tt_li (lsT T (qi c d) k) (qi c d) = (tt_li T (qi c d)).drop k := up_s _ _ _
    obtain ⟨w1, a1, a2, a3⟩ := r_takes h hc hd (by rw [← hqe, eli, List.length_drop]; omega)
    rw [← hqe, eli] at a1 a2
    have ehd : ((tt_li T (qi c d)).drop k).getD 0 0 = (tt_li T (qi c d))[k] := by
      rw [List.getD_eq_getElem?_getD, List.getElem?_drop, Nat.add_zero, List.getElem?_eq_getElem hlt]; rfl
    obtain ⟨o, v, eu, ho, hv1, hv⟩ := I.2.2.2.2.2.2.2.2.2.1 (qi c d) _ q8.2 (List.getElem_mem hlt)
    have hvw := it_wr I ho
    rw [ehd] at a1
    have enu : tt_nu (lsT T (qi c d) k) 5 = tt_nu T 5 + k := up_s (tt_nu T) 5 _
    have h2 := rr_set_nu a2 (j := 5) (by omega) (tt_nu T 5 + (k + 1))
    have e2 : ts_nu (ts_li (lsT T (qi c d) k) (va_up (tt_li (lsT T (qi c d) k)) (qi c d) (((tt_li T (qi c d)).drop k).drop 1))) (va_up (tt_nu (ts_li (lsT T (qi c d) k) (va_up (tt_li (lsT T (qi c d) k)) (qi c d) (((tt_li T (qi c d)).drop k).drop 1)))) 5 (tt_nu T 5 + (k + 1))) = lsT T (qi c d) (k + 1) := by
      unfold lsT
      show ((va_up (va_up (tt_nu T) 5 (tt_nu T 5 + k)) 5 (tt_nu T 5 + (k + 1)), T.2.1, T.2.2.1, T.2.2.2.1, T.2.2.2.2.1, T.2.2.2.2.2.1, va_up (va_up (tt_li T) (qi c d) ((tt_li T (qi c d)).drop k)) (qi c d) (((tt_li T (qi c d)).drop k).drop 1)) : TT) = (va_up (tt_nu T) 5 (tt_nu T 5 + (k + 1)), T.2.1, T.2.2.1, T.2.2.2.1, T.2.2.2.2.1, T.2.2.2.2.2.1, va_up (tt_li T) (qi c d) ((tt_li T (qi c d)).drop (k + 1)))
      rw [up_up, up_up, List.drop_drop]
    rw [e2] at h2
    rw [← w1_set] at h2
    obtain ⟨w', f1, f2, f3⟩ := ih n (k + 1) _ (by omega) (by omega) h2
    refine ⟨w', ?_, f2, (a3.tr (FrR.s (Or.inl rfl))).tr f3⟩
    have e5 : w1 1 5 = nI (tt_nu T 5 + k) := by
      have := rr_nu a2 (j := 5) (by omega)
      rw [this]
      exact congrArg nI enu
    rw [m_X8_loses_L44, if_neg (by rw [z_le (by omega) (by omega)]; omega), if_neg (by rw [z_le (by omega) (by omega)]; omega), a1, b_b, if_pos (ib_n (by omega) (by omega)), if_neg (by show ¬ nI _ ≤ 0; rw [eu, z_le0 (by omega)]; omega), m_X8_loses_j82, if_pos (ib_n (by omega) (by omega)), nI_clamp (by omega)]
    dsimp only
    rw [e5, nI_add, lt_eq, nI_add]
    exact f1
theorem r_loses (h : RepR T (w 1)) (I : InvT T) (x y z : Int32) : ∃ w', m_X8_loses x y z w = some ((sp_lose T (dn x) (dn y) (dn z)).1, w') ∧ RepR (sp_lose T (dn x) (dn y) (dn z)).2 (w' 1) ∧ FrR w w' := by
  have IB := I.B
  have hnp := it_np IB
  have hF := FUb
  have bad : ¬ (((1 ≤ dn x ∧ dn x < tt_nu T 0) ∧ dn y < 2) ∧ 1 ≤ dn z ∧ dn z ≤ 9) → ∃ w', some ((-1 : Int32), w) = some ((sp_lose T (dn x) (dn y) (dn z)).1, w') ∧ RepR (sp_lose T (dn x) (dn y) (dn z)).2 (w' 1) ∧ FrR w w' := by
    intro hab
    have e : sp_lose T (dn x) (dn y) (dn z) = (-1, T) := if_neg hab
    rw [e]
    exact ⟨w, rfl, h, FrR.rf⟩
  rw [m_X8_loses, r_isQueue h IB, b_b]
  by_cases a : (1 ≤ dn x ∧ dn x < tt_nu T 0) ∧ dn y < 2
  · rw [if_pos a, if_neg (by decide), r_in (by omega) (by omega), b_b]
    by_cases b : 1 ≤ dn z ∧ dn z ≤ 9
    · rw [if_pos b, if_pos (by decide)]
      have ex := dn_lt a.1.2 (by omega)
      have ey := dn_lt a.2 (by omega)
      have ez := dn_lt (Nat.lt_succ_of_le b.2) (by omega)
      generalize dn x = c at *
      generalize dn y = d at *
      generalize dn z = n at *
      subst ex; subst ey; subst ez
      obtain ⟨q1, q2, q3, q4⟩ := r_qsz h (c := c) (d := d) (by omega) a.2
      have hcl : (nI (qb (qi c d))).toNatClampNeg = qb (qi c d) := nI_clamp (by omega)
      rw [q1, b_b, if_pos (ib_n (by omega) (by omega)), hcl, q2, lt_eq]
      by_cases g : (tt_li T (qi c d)).length = 0
      · have es : sp_lose T c d n = (-2, T) := by rw [sp_lose, if_pos ⟨a, b⟩, if_pos g]
        rw [if_neg (by rw [g]; decide), es]
        exact ⟨w, rfl, h, FrR.rf⟩
      · have es : sp_lose T c d n = (nI (min n (tt_li T (qi c d)).length), lsT T (qi c d) (min n (tt_li T (qi c d)).length)) := by rw [sp_lose, if_pos ⟨a, b⟩, if_neg g]; rfl
        rw [if_pos (by rw [z_eq0 (by omega)]; exact g), es]
        exact r_lo_L44 I a.1.1 (by omega) a.2 (by omega) (min n (tt_li T (qi c d)).length) FU 0 w (by omega) (by omega) (by rw [lsT_0]; exact h)
    · rw [if_neg b, if_neg (by decide)]
      exact bad (fun q => b q.2)
  · rw [if_neg a, if_pos (by decide)]
    exact bad (fun q => a q.1)
end ROPS
