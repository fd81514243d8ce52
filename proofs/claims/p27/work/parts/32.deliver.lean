/-! ===== what stays in all steps ===== -/
def Fx (T T' : TT) : Prop := tt_pa T' = tt_pa T ∧ tt_ho T' = tt_ho T ∧ tt_wr T' = tt_wr T ∧ tt_ca T' = tt_ca T ∧ tt_nu T' 0 = tt_nu T 0 ∧ tt_nu T' 1 = tt_nu T 1 ∧ tt_nu T' 2 = tt_nu T 2 ∧ tt_li T' 8 = tt_li T 8 ∧ tt_li T' 16 = tt_li T 16
theorem Fx.rf {T : TT} : Fx T T := ⟨rfl, rfl, rfl, rfl, rfl, rfl, rfl, rfl, rfl⟩
theorem Fx.tr {T T1 T2 : TT} (h : Fx T T1) (g : Fx T1 T2) : Fx T T2 := ⟨g.1.trans h.1, g.2.1.trans h.2.1, g.2.2.1.trans h.2.2.1, g.2.2.2.1.trans h.2.2.2.1, g.2.2.2.2.1.trans h.2.2.2.2.1, g.2.2.2.2.2.1.trans h.2.2.2.2.2.1, g.2.2.2.2.2.2.1.trans h.2.2.2.2.2.2.1, g.2.2.2.2.2.2.2.1.trans h.2.2.2.2.2.2.2.1, g.2.2.2.2.2.2.2.2.trans h.2.2.2.2.2.2.2.2⟩
theorem enq_fx (T : TT) {i : Nat} (u : Nat) (n8 : i ≠ 8) (n16 : i ≠ 16) : Fx T (enq T i u) := by
  unfold enq
  split
  · exact ⟨rfl, rfl, rfl, rfl, rfl, rfl, rfl, up_n (f := tt_li T) (x := tt_li T i ++ [u]) (Ne.symm n8), up_n (f := tt_li T) (x := tt_li T i ++ [u]) (Ne.symm n16)⟩
  · exact ⟨rfl, rfl, rfl, rfl, up_n (f := tt_nu T) (k := 4) (j := 0) (x := tt_nu T 4 + 1) (by decide), up_n (f := tt_nu T) (k := 4) (j := 1) (x := tt_nu T 4 + 1) (by decide), up_n (f := tt_nu T) (k := 4) (j := 2) (x := tt_nu T 4 + 1) (by decide), rfl, rfl⟩
theorem pdown_fx {p fr u : Nat} : ∀ (n c : Nat) (T : TT), 1 ≤ c → Fx T (pdown p fr u n c T) := by
  intro n
  induction n with
  | zero => intro c T _; exact Fx.rf
  | succ n ih =>
    intro c T hc
    have h1 : Fx T (pdStep T p fr u c) := by
      unfold pdStep
      split
      · exact enq_fx T u (by omega) (by omega)
      · exact Fx.rf
    exact h1.tr (ih (c + 1) _ (by omega))
theorem passOn_fx (T : TT) {p fr u : Nat} (hp : p < 8) : Fx T (passOn T p fr u) := by
  unfold passOn
  refine Fx.tr (T1 := if p ≠ 0 ∧ tt_pa T p ≠ fr then enq T (8 + p) u else T) ?_ (pdown_fx _ 1 _ (by omega))
  split
  · rename_i c; exact enq_fx T u (by omega) (by omega)
  · exact Fx.rf
theorem evict_nu (T : TT) (p : Nat) {j : Nat} (hj : j ≠ 6) : tt_nu (evict T p) j = tt_nu T j := by
  show va_up (tt_nu T) 6 _ j = _
  exact up_n hj
theorem keep_fx (T : TT) {p : Nat} (hp : p < 8) (u : Nat) : Fx T (keep T p u) := by
  have l : ∀ i, i ≠ p → tt_li (addLi T p u) i = tt_li T i := fun i hi => up_n hi
  unfold keep
  split
  · exact ⟨rfl, rfl, rfl, rfl, rfl, rfl, rfl, l 8 (by omega), l 16 (by omega)⟩
  · refine ⟨rfl, rfl, rfl, rfl, evict_nu _ p (j := 0) (by decide), evict_nu _ p (j := 1) (by decide), evict_nu _ p (j := 2) (by decide), ?_, ?_⟩
    · show va_up (tt_li (addLi T p u)) p _ 8 = _
      rw [up_n (by omega)]; exact l 8 (by omega)
    · show va_up (tt_li (addLi T p u)) p _ 16 = _
      rw [up_n (by omega)]; exact l 16 (by omega)
theorem learn_fx (T : TT) {p : Nat} (hp : p < 8) (fr u : Nat) : Fx T (learn T p fr u) := by
  have h1 := keep_fx (addKn T p (u / 100) (u % 100)) hp u
  have h2 := passOn_fx (keep (addKn T p (u / 100) (u % 100)) p u) (p := p) (fr := fr) (u := u) hp
  exact Fx.tr (Fx.tr (T1 := addKn T p (u / 100) (u % 100)) ⟨rfl, rfl, rfl, rfl, rfl, rfl, rfl, rfl, rfl⟩ h1) h2
theorem arrive_fx (T : TT) {p : Nat} (hp : p < 8) (fr u : Nat) : Fx T (arrive T p fr u) := by
  unfold arrive
  split
  · exact Fx.rf
  · split
    · exact ⟨rfl, rfl, rfl, rfl, up_n (f := tt_nu T) (k := 3) (j := 0) (x := tt_nu T 3 + 1) (by decide), up_n (f := tt_nu T) (k := 3) (j := 1) (x := tt_nu T 3 + 1) (by decide), up_n (f := tt_nu T) (k := 3) (j := 2) (x := tt_nu T 3 + 1) (by decide), rfl, rfl⟩
    · exact learn_fx T hp fr u
theorem keep_nu3 (T : TT) (p u : Nat) : tt_nu (keep T p u) 3 = tt_nu T 3 := by
  unfold keep
  split
  · rfl
  · exact evict_nu _ p (j := 3) (by decide)
theorem arrTold_le (T : TT) (p fr u : Nat) : arrTold T p fr u ≤ 2 := by
  unfold arrTold
  split
  · omega
  · split <;> omega
theorem arrive_nu3 (T : TT) (p fr u : Nat) : tt_nu (arrive T p fr u) 3 = tt_nu T 3 + (if arrTold T p fr u = 2 then 1 else 0) := by
  unfold arrive
  by_cases c : arrTold T p fr u = 0
  · rw [if_pos c, if_neg (by omega), Nat.add_zero]
  · rw [if_neg c]
    by_cases d : arrTold T p fr u = 2
    · rw [if_pos d, if_pos d]; exact up_s (tt_nu T) 3 _
    · rw [if_neg d, if_neg d]
      exact ((passOn_same _ p fr u).2.2.2.2.2.1 3 (by decide)).trans (keep_nu3 _ _ _)
theorem drop_inv {T : TT} (I : InvT T) {i : Nat} (h8 : 8 ≤ i) (k : Nat) : InvT (ts_li T (va_up (tt_li T) i ((tt_li T i).drop k))) := by
  obtain ⟨i1, i2, i3, i4, i5, i6, i7, i8, i9, i10, i11, i12, i13⟩ := I
  refine ⟨i1, i2, i3, i4, i5, i6, i7, i8, i9, fun j x hj hx => ?_, fun j hj h8' => ?_, fun j h1 hj => ?_, ?_⟩
  · change x ∈ va_up (tt_li T) i _ j at hx
    by_cases c : j = i
    · subst c
      rw [up_s] at hx
      exact i10 j x hj (List.mem_of_mem_drop hx)
    · rw [up_n c] at hx; exact i10 j x hj hx
  · show (va_up (tt_li T) i _ j).length ≤ 12
    by_cases c : j = i
    · subst c
      rw [up_s, List.length_drop]
      have := i11 j hj h8'
      omega
    · rw [up_n c]; exact i11 j hj h8'
  · show (va_up (tt_li T) i _ j).length ≤ 12
    rw [up_n (by omega)]; exact i12 j h1 hj
  · show (va_up (tt_li T) i _ 0).length = _
    rw [up_n (by omega)]; exact i13
/-! ===== deliver ===== -/
def dlv (p fr q : Nat) : Nat → TT → Nat × TT
  | 0, T => (0, T)
  | n + 1, T => if (tt_li T q).length = 0 then (0, T) else ((dlv p fr q n (arrive (ts_li T (va_up (tt_li T) q ((tt_li T q).drop 1))) p fr ((tt_li T q).getD 0 0))).1 + (if arrTold (ts_li T (va_up (tt_li T) q ((tt_li T q).drop 1))) p fr ((tt_li T q).getD 0 0) = 1 then 1 else 0), (dlv p fr q n (arrive (ts_li T (va_up (tt_li T) q ((tt_li T q).drop 1))) p fr ((tt_li T q).getD 0 0))).2)
theorem drop_fx (T : TT) {q : Nat} (n8 : q ≠ 8) (n16 : q ≠ 16) (k : Nat) : Fx T (ts_li T (va_up (tt_li T) q ((tt_li T q).drop k))) := ⟨rfl, rfl, rfl, rfl, rfl, rfl, rfl, up_n (f := tt_li T) (x := (tt_li T q).drop k) (Ne.symm n8), up_n (f := tt_li T) (x := (tt_li T q).drop k) (Ne.symm n16)⟩
theorem dlv_ok (p fr q : Nat) (hp : p < 8) (h8 : 8 ≤ q) (hq : q < 24) (n8 : q ≠ 8) (n16 : q ≠ 16) : ∀ (n : Nat) (T : TT), InvT T → InvT (dlv p fr q n T).2 ∧ Fx T (dlv p fr q n T).2 ∧ (dlv p fr q n T).1 ≤ n := by
  intro n
  induction n with
  | zero => intro T I; exact ⟨I, Fx.rf, Nat.le_refl _⟩
  | succ n ih =>
    intro T I
    rw [dlv]
    by_cases c : (tt_li T q).length = 0
    · rw [if_pos c]; exact ⟨I, Fx.rf, Nat.zero_le _⟩
    · rw [if_neg c]
      have hu : upOk (tt_wr T) ((tt_li T q).getD 0 0) := by
        have e : (tt_li T q).getD 0 0 = (tt_li T q)[0]'(by omega) := by
          rw [List.getD_eq_getElem?_getD, List.getElem?_eq_getElem (by omega)]; rfl
        rw [e]
        exact I.2.2.2.2.2.2.2.2.2.1 q _ hq (List.getElem_mem _)
      have I1 := drop_inv I h8 1
      have I2 := arrive_inv I1 (p := p) (fr := fr) hp hu
      obtain ⟨a, b, d⟩ := ih _ I2
      refine ⟨a, ((drop_fx T n8 n16 1).tr (arrive_fx _ hp fr _)).tr b, ?_⟩
      show _ + _ ≤ n + 1
      split <;> omega
theorem e_deliver_L {p fr q m : Nat} (h8 : 8 ≤ q) (hq : q < 24) (n8 : q ≠ 8) (n16 : q ≠ 16) (hm : m < 1000) : ∀ (d n k a : Nat) (T : TT) (w : Wd), k + d = m → d < n → a + d < 1000 → RepC 0 T w → InvT T → p < tt_nu T 0 → ∃ w', m_X3_deliverFirst_L83 (2 * q) (nI m) (nI p) (frC fr) n (nI a) (nI k) w = some (nI (a + (dlv p fr q d T).1), w') ∧ RepC 0 (dlv p fr q d T).2 w' ∧ Fr w w' := by
  intro d
  induction d with
  | zero =>
    intro n k a T w hk hn ha h I hp
    obtain ⟨n, rfl⟩ : ∃ m, n = m + 1 := ⟨n - 1, by omega⟩
    refine ⟨w, by rw [m_X3_deliverFirst_L83, if_pos (by rw [z_le (by omega) (by omega)]; omega)]; rfl, h, Fr.rf⟩
  | succ d ih =>
    intro n k a T w hk hn ha h I hp
    obtain ⟨n, rfl⟩ : ∃ m, n = m + 1 := ⟨n - 1, by omega⟩
    have hl := rc_li h hq
    have hl12 := it_q12 I q h8 hq
    have hr := lrq q hq h8 n8 n16
    have hnp := it_np I.B
    rw [m_X3_deliverFirst_L83, if_neg (by rw [z_le (by omega) (by omega)]; omega), e_len hl, b_b, dlv]
    by_cases c : (tt_li T q).length = 0
    · rw [if_pos (by rw [z_le0 (by omega)]; exact c), if_pos c]
      exact ⟨w, rfl, h, Fr.rf⟩
    · rw [if_neg (by rw [z_le0 (by omega)]; exact c), if_neg c]
      have e : (tt_li T q).getD 0 0 = (tt_li T q)[0]'(by omega) := by
        rw [List.getD_eq_getElem?_getD, List.getElem?_eq_getElem (by omega)]; rfl
      have hu : upOk (tt_wr T) ((tt_li T q).getD 0 0) := by
        rw [e]
        exact I.2.2.2.2.2.2.2.2.2.1 q _ hq (List.getElem_mem _)
      have h0 := e_at hl (by omega) (lrb q hq) (k := 0) (by omega)
      rw [← e] at h0
      obtain ⟨w1, a1, a2, a3⟩ := e_removeAt hl (by omega) (lrb q hq) (k := 0) (by omega)
      have h1 := rc_set_li h hq a2 a3
      have hl0 : (tt_li T q).eraseIdx 0 = (tt_li T q).drop 1 := by simp
      rw [hl0] at h1
      have I1 := drop_inv I h8 1
      obtain ⟨w2, b1, b2, b3⟩ := e_arrive h1 I1 (p := p) (fr := fr) hp hu
      have I2 := arrive_inv I1 (p := p) (fr := fr) (by omega) hu
      have hf := (arrive_fx (ts_li T (va_up (tt_li T) q ((tt_li T q).drop 1))) (p := p) (by omega) fr ((tt_li T q).getD 0 0)).2.2.2.2.1
      rw [h0, b_b, a1, b_b, b1, b_b]
      generalize arrTold (ts_li T (va_up (tt_li T) q ((tt_li T q).drop 1))) p fr ((tt_li T q).getD 0 0) = t at *
      generalize arrive (ts_li T (va_up (tt_li T) q ((tt_li T q).drop 1))) p fr ((tt_li T q).getD 0 0) = T2 at *
      dsimp only
      by_cases g : t = 1
      · rw [if_pos g, if_neg (by decide), m_X3_deliverFirst_j127, nI_add, nI_add]
        obtain ⟨w', f1, f2, f3⟩ := ih n (k + 1) (a + 1) T2 w2 (by omega) (by omega) (by omega) b2 I2 (by rw [hf]; exact hp)
        exact ⟨w', by rw [f1, show a + 1 + (dlv p fr q d T2).1 = a + ((dlv p fr q d T2).1 + 1) by omega], f2, ((Fr.li hq a3).tr b3).tr f3⟩
      · rw [if_neg g, if_pos (by decide), m_X3_deliverFirst_j127, nI_add]
        obtain ⟨w', f1, f2, f3⟩ := ih n (k + 1) a T2 w2 (by omega) (by omega) (by omega) b2 I2 (by rw [hf]; exact hp)
        exact ⟨w', f1, f2, ((Fr.li hq a3).tr b3).tr f3⟩
def sp_deliver (T : TT) (c d n : Nat) : Int32 × TT := if ((1 ≤ c ∧ c < tt_nu T 0) ∧ d < 2) ∧ 1 ≤ n ∧ n ≤ 9 then (if (tt_li T (qi c d)).length = 0 then (-2, T) else (nI (dlv (if d = 0 then tt_pa T c else c) (if d = 0 then c else tt_pa T c) (qi c d) n T).1, (dlv (if d = 0 then tt_pa T c else c) (if d = 0 then c else tt_pa T c) (qi c d) n T).2)) else (-1, T)
theorem e_deliverFirst {T : TT} {w : Wd} (h : RepC 0 T w) (I : InvT T) (x y z : Int32) : ∃ w', m_X3_deliverFirst x y z w = some ((sp_deliver T (dn x) (dn y) (dn z)).1, w') ∧ RepC 0 (sp_deliver T (dn x) (dn y) (dn z)).2 w' ∧ Fr w w' := by
  have IB := I.B
  have hnp := it_np IB
  have hF := FUb
  have bad : ¬ (((1 ≤ dn x ∧ dn x < tt_nu T 0) ∧ dn y < 2) ∧ 1 ≤ dn z ∧ dn z ≤ 9) → ∃ w', some ((-1 : Int32), w) = some ((sp_deliver T (dn x) (dn y) (dn z)).1, w') ∧ RepC 0 (sp_deliver T (dn x) (dn y) (dn z)).2 w' ∧ Fr w w' := by
    intro hab
    have e : sp_deliver T (dn x) (dn y) (dn z) = (-1, T) := if_neg hab
    rw [e]
    exact ⟨w, rfl, h, Fr.rf⟩
  rw [m_X3_deliverFirst, e_hasQueue h IB, b_b]
  by_cases a : (1 ≤ dn x ∧ dn x < tt_nu T 0) ∧ dn y < 2
  · rw [if_pos a, if_neg (by decide), e_takeable, b_b]
    by_cases b : 1 ≤ dn z ∧ dn z ≤ 9
    · rw [if_pos b, if_pos (by decide)]
      rcases z_or x with hx | ⟨c, hc, rfl⟩
      · rw [dn_neg hx] at a; omega
      rcases z_or y with hy | ⟨d, hd, rfl⟩
      · rw [dn_neg hy] at a; omega
      rcases z_or z with hz | ⟨n, hn, rfl⟩
      · rw [dn_neg hz] at b; omega
      rw [dn_nI hc, dn_nI hd] at a
      rw [dn_nI hn] at b
      rw [dn_nI hc, dn_nI hd, dn_nI hn]
      have hqi : 8 ≤ qi c d ∧ qi c d < 24 ∧ qi c d ≠ 8 ∧ qi c d ≠ 16 := by unfold qi; split <;> omega
      have hl := rc_li h hqi.2.1
      have hl12 := it_q12 I _ hqi.1 hqi.2.1
      have hpa := I.2.2.2.1.2 c a.1.1 (by omega)
      rw [e_queueOf h IB a.1.1 a.1.2 a.2, b_b, e_len hl, b_b]
      by_cases g : (tt_li T (qi c d)).length = 0
      · have es : sp_deliver T c d n = (-2, T) := by rw [sp_deliver, if_pos ⟨a, b⟩, if_pos g]
        rw [if_neg (by rw [g]; decide), es]
        exact ⟨w, rfl, h, Fr.rf⟩
      · have es : sp_deliver T c d n = (nI (dlv (if d = 0 then tt_pa T c else c) (if d = 0 then c else tt_pa T c) (qi c d) n T).1, (dlv (if d = 0 then tt_pa T c else c) (if d = 0 then c else tt_pa T c) (qi c d) n T).2) := by rw [sp_deliver, if_pos ⟨a, b⟩, if_neg g]
        rw [if_pos (by rw [z_eq0 (by omega)]; exact g), es, e_parentOf h (by omega), b_b]
        have L := fun (p fr : Nat) (hp : p < tt_nu T 0) => e_deliver_L (p := p) (fr := fr) (m := n) hqi.1 hqi.2.1 hqi.2.2.1 hqi.2.2.2 (by omega) n FU 0 0 T w (by omega) (by omega) (by omega) h I hp
        by_cases k : d = 0
        · obtain ⟨w', f1, f2, f3⟩ := L (tt_pa T c) c (by omega)
          rw [show frC c = nI c from if_pos (by omega), Nat.zero_add] at f1
          rw [if_neg (by rw [k]; decide), m_X3_deliverFirst_j63, if_neg (by rw [k]; decide), if_pos k, if_pos k, m_X3_deliverFirst_j75]
          exact ⟨w', f1, f2, f3⟩
        · obtain ⟨w', f1, f2, f3⟩ := L c (tt_pa T c) a.1.2
          rw [show frC (tt_pa T c) = nI (tt_pa T c) from if_pos (by omega), Nat.zero_add] at f1
          rw [if_pos (by rw [z_eq0 (by omega)]; exact k), m_X3_deliverFirst_j63, if_pos (by rw [z_eq0 (by omega)]; exact k), if_neg k, if_neg k, m_X3_deliverFirst_j75]
          exact ⟨w', f1, f2, f3⟩
    · rw [if_neg b, if_neg (by decide)]
      exact bad (fun q => b q.2)
  · rw [if_neg a, if_pos (by decide)]
    exact bad (fun q => a q.1)
/-! ===== write ===== -/
def setc (B : Nat) (g : Nat → Nat) : Nat → (Nat → Nat) → Nat → Nat
  | 0, f => f
  | n + 1, f => va_up (setc B g n f) (B + n) (g n)
theorem setc_in (B : Nat) (g : Nat → Nat) (f : Nat → Nat) : ∀ (n i : Nat), i < n → setc B g n f (B + i) = g i := by
  intro n
  induction n with
  | zero => intro i hi; omega
  | succ n ih =>
    intro i hi
    rw [setc]
    by_cases c : i = n
    · subst c; rw [up_s]
    · rw [up_n (by omega)]; exact ih i (by omega)
theorem setc_out (B : Nat) (g : Nat → Nat) (f : Nat → Nat) : ∀ (n j : Nat), (j < B ∨ B + n ≤ j) → setc B g n f j = f j := by
  intro n
  induction n with
  | zero => intro j _; rfl
  | succ n ih =>
    intro j hj
    rw [setc, up_n (by omega)]
    exact ih j (by omega)
def wrG (T : TT) (o : Nat) : Nat → Nat := fun f => if f = o then tt_wr T o else pfx T (tt_ho T o) f
def wrT (T : TT) (o : Nat) : TT := ts_wr (ts_ca T (setc (96 * o + 4 * tt_wr T o) (wrG T o) 4 (tt_ca T))) (va_up (tt_wr T) o (tt_wr T o + 1))
def sp_write (T : TT) (o : Nat) : Int32 × TT := if o < 4 then (if tt_wr T o < 24 then (nI (tt_wr T o + 1), arrive (wrT T o) (tt_ho T o) 8 (100 * o + (tt_wr T o + 1))) else (-3, T)) else (-1, T)
theorem pre_wr {T : TT} (I : InvT T) {p o : Nat} (hp : p < 8) (ho : o < 4) : pfx T p o ≤ tt_wr T o := by
  have h := pfx_ini T p o
  have h2 : ini T p o = pre (tt_kn T (4 * p + o)) := rfl
  rcases Nat.eq_zero_or_pos (pfx T p o) with e | e
  · omega
  · exact (I.2.2.2.2.2.2.2.2.1 p o _ hp ho (pre_in (f := tt_kn T (4 * p + o)) (v := pfx T p o) e (by omega))).2
theorem wrT_inv {T : TT} (I : InvT T) {o : Nat} (ho : o < 4) (hw : tt_wr T o < 24) : InvT (wrT T o) := by
  obtain ⟨i1, i2, i3, i4, i5, i6, i7, i8, i9, i10, i11, i12, i13⟩ := id I
  have hh := i5 o ho
  have hg : ∀ f, f < 4 → wrG T o f ≤ tt_wr T f := by
    intro f hf
    unfold wrG
    split
    · rename_i e; rw [e]; exact Nat.le_refl _
    · exact pre_wr I (by omega) hf
  have hwr : ∀ f, tt_wr T f ≤ va_up (tt_wr T) o (tt_wr T o + 1) f := by
    intro f
    by_cases c : f = o
    · subst c; rw [up_s]; omega
    · rw [up_n c]; exact Nat.le_refl _
  refine ⟨i1, i2, i3, i4, i5, fun f hf => ?_, fun j hj => ?_, fun o' v ho' h1 hv => ?_, fun p o' v hp ho' hk => ?_, fun i u hi hu => ?_, i11, i12, i13⟩
  · show va_up (tt_wr T) o (tt_wr T o + 1) f ≤ 24
    by_cases c : f = o
    · subst c; rw [up_s]; omega
    · rw [up_n c]; exact i6 f hf
  · show setc _ (wrG T o) 4 (tt_ca T) j ≤ 24
    by_cases c : j < 96 * o + 4 * tt_wr T o ∨ 96 * o + 4 * tt_wr T o + 4 ≤ j
    · rw [setc_out _ _ _ _ _ c]; exact i7 j hj
    · obtain ⟨i, rfl⟩ : ∃ i, j = 96 * o + 4 * tt_wr T o + i := ⟨j - (96 * o + 4 * tt_wr T o), by omega⟩
      rw [setc_in _ _ _ _ _ (by omega)]
      have := hg i (by omega)
      have := i6 i (by omega)
      omega
  · change v ≤ va_up (tt_wr T) o (tt_wr T o + 1) o' at hv
    show setc _ (wrG T o) 4 (tt_ca T) (96 * o' + 4 * (v - 1) + o') = v - 1 ∧ ∀ f, f < 4 → setc _ (wrG T o) 4 (tt_ca T) (96 * o' + 4 * (v - 1) + f) ≤ va_up (tt_wr T) o (tt_wr T o + 1) f
    by_cases c : o' = o
    · subst c
      rw [up_s] at hv
      by_cases d : v = tt_wr T o' + 1
      · have e : 4 * (v - 1) = 4 * tt_wr T o' := by omega
        rw [e]
        refine ⟨?_, fun f hf => ?_⟩
        · rw [setc_in _ _ _ _ _ ho']
          show (if o' = o' then _ else _) = _
          rw [if_pos rfl, d, Nat.add_sub_cancel]
        · rw [setc_in _ _ _ _ _ hf]
          exact Nat.le_trans (hg f hf) (hwr f)
      · have hv' : v ≤ tt_wr T o' := by omega
        obtain ⟨a, b⟩ := i8 o' v ho' h1 hv'
        refine ⟨?_, fun f hf => ?_⟩
        · rw [setc_out _ _ _ _ _ (by omega)]; exact a
        · rw [setc_out _ _ _ _ _ (by omega)]; exact Nat.le_trans (b f hf) (hwr f)
    · rw [up_n c] at hv
      have := i6 o' ho'
      obtain ⟨a, b⟩ := i8 o' v ho' h1 hv
      refine ⟨?_, fun f hf => ?_⟩
      · rw [setc_out _ _ _ _ _ (by omega)]; exact a
      · rw [setc_out _ _ _ _ _ (by omega)]; exact Nat.le_trans (b f hf) (hwr f)
  · obtain ⟨a, b⟩ := i9 p o' v hp ho' hk
    exact ⟨a, Nat.le_trans b (hwr o')⟩
  · obtain ⟨o', v, e, a, b, c⟩ := i10 i u hi hu
    exact ⟨o', v, e, a, b, Nat.le_trans c (hwr o')⟩
theorem sp_write_inv {T : TT} (I : InvT T) (o : Nat) : InvT (sp_write T o).2 := by
  unfold sp_write
  by_cases ho : o < 4
  · rw [if_pos ho]
    by_cases hw : tt_wr T o < 24
    · rw [if_pos hw]
      have := I.2.2.2.2.1 o ho
      have := I.1
      refine arrive_inv (wrT_inv I ho hw) (by omega) ⟨o, tt_wr T o + 1, rfl, ho, by omega, ?_⟩
      show _ ≤ va_up (tt_wr T) o _ o
      rw [up_s]; omega
    · rw [if_neg hw]; exact I
  · rw [if_neg ho]; exact I
theorem e_setCause {T : TT} {w : Wd} (h : RepC 0 T w) {o v f n : Nat} (ho : o < 4) (hv : v < 24) (hf : f < 4) : ∃ w', m_X5_setCause (nI o) (nI (v + 1)) (nI f) (nI n) w = some w' ∧ RepC 0 (ts_ca T (va_up (tt_ca T) (96 * o + 4 * v + f) n)) w' ∧ (∀ k, k ≠ 55 → w' k = w k) := by
  refine ⟨wset w 55 (96 * o + 4 * v + f) (nI n), ?_, rc_set_ca h _ _, fun k hk => wset_ne hk⟩
  simp (disch := omega) only [lt_eq, bs_eq, pk_mul, nI_add, z_sub, z_m1, z_le, z_lt, z_eq, z_lt0, z_eq0, z_le0, z_0le, z_0lt, z_ib, nI_clamp, if_false, if_true, not_true_eq_false, not_false_eq_true, if_neg, if_pos, Nat.reduceAdd, Nat.reduceMul, m_X5_setCause]
  rw [show (o * 24 + (v + 1) - 1) * 4 + f = 96 * o + 4 * v + f by omega]
theorem e_write_step {T : TT} {w : Wd} (h : RepC 0 T w) {P : Nat → Nat} (hP : RepP w P) {o v f : Nat} (x2 : Int32) (ho : o < 4) (hv : v < 24) (hf : f < 4) (kx : Wd → Option (Int32 × Wd)) (n : Nat) : ∃ w', m_X3_makeWrite_L56 (nI o) x2 (nI (v + 1)) kx (n + 1) (nI f) w = m_X3_makeWrite_L56 (nI o) x2 (nI (v + 1)) kx n (nI (f + 1)) w' ∧ RepC 0 (ts_ca T (va_up (tt_ca T) (96 * o + 4 * v + f) (if f = o then v else P f))) w' ∧ (∀ k, k ≠ 55 → w' k = w k) := by
  rw [m_X3_makeWrite_L56, if_neg (by rw [z_le (by omega) (by omega)]; omega)]
  by_cases c : f = o
  · obtain ⟨w', a1, a2, a3⟩ := e_setCause h (n := v) ho hv hf
    refine ⟨w', ?_, by rw [if_pos c]; exact a2, a3⟩
    rw [if_neg (by rw [c]; exact fun q => q rfl), z_sub (by omega), Nat.add_sub_cancel, m_X3_makeWrite_j91, a1, b_b, nI_add]
  · obtain ⟨w', a1, a2, a3⟩ := e_setCause h (n := P f) ho hv hf
    refine ⟨w', ?_, by rw [if_neg c]; exact a2, a3⟩
    rw [if_pos (by rw [z_eq (by omega) (by omega)]; exact c), e_prefixFound hP hf, b_b, m_X3_makeWrite_j91, a1, b_b, nI_add]
theorem e_makeWrite {T : TT} {w : Wd} (h : RepC 0 T w) (I : InvT T) (x : Int32) : ∃ w', m_X3_makeWrite x w = some ((sp_write T (dn x)).1, w') ∧ RepC 0 (sp_write T (dn x)).2 w' ∧ Fr w w' := by
  have IB := I.B
  have hnp := it_np IB
  rw [m_X3_makeWrite]
  rcases z_or x with hx | ⟨o, hoo, rfl⟩
  · rw [e_isOrigin_neg hx, b_b, if_neg (by decide)]
    have e : sp_write T (dn x) = (-1, T) := if_neg (by rw [dn_neg hx]; omega)
    rw [e]
    exact ⟨w, rfl, h, Fr.rf⟩
  rw [dn_nI hoo]
  by_cases ho : o < 4
  · have h24 := it_wr I ho
    have hh := I.2.2.2.2.1 o ho
    rw [e_isOrigin ho, b_b, if_pos (by decide), e_writtenOf h ho, b_b]
    by_cases hw : tt_wr T o < 24
    · have es : sp_write T o = (nI (tt_wr T o + 1), arrive (wrT T o) (tt_ho T o) 8 (100 * o + (tt_wr T o + 1))) := by rw [sp_write, if_pos ho, if_pos hw]
      rw [if_pos (by rw [z_lt (by omega) (by omega)]; exact hw), e_homeOf h ho, b_b, b_b, lt_eq, nI_add, es]
      obtain ⟨w0, c1, c2, c3⟩ := e_findServed h IB (p := tt_ho T o) (by omega)
      rw [c1, b_b]
      have h0 := rc_474 h c3
      obtain ⟨n, en, hn⟩ := FU5
      rw [en]
      have mv : ∀ {w w' : Wd}, RepP w (pfx T (tt_ho T o)) → (∀ k, k ≠ 55 → w' k = w k) → RepP w' (pfx T (tt_ho T o)) := fun hP hf f hff => by rw [hf 474 (by omega)]; exact hP f hff
      obtain ⟨w1, a1, a2, a3⟩ := e_write_step h0 c2 (f := 0) (nI (tt_ho T o)) ho hw (by omega) (fun w7 =>
        (m_X5_setWrittenOf (nI o) (nI (tt_wr T o + 1)) w7).bind fun o8 =>
        (m_X7_updateOf (nI o) (nI (tt_wr T o + 1))).bind fun o9 =>
        (m_X3_arrive (nI (tt_ho T o)) (-1 : Int32) o9 o8).bind fun o10 =>
        some (nI (tt_wr T o + 1), o10.2)) (n + 4)
      have p1 := mv c2 a3
      obtain ⟨w2, a4, a5, a6⟩ := e_write_step a2 p1 (f := 1) (nI (tt_ho T o)) ho hw (by omega) (fun w7 =>
        (m_X5_setWrittenOf (nI o) (nI (tt_wr T o + 1)) w7).bind fun o8 =>
        (m_X7_updateOf (nI o) (nI (tt_wr T o + 1))).bind fun o9 =>
        (m_X3_arrive (nI (tt_ho T o)) (-1 : Int32) o9 o8).bind fun o10 =>
        some (nI (tt_wr T o + 1), o10.2)) (n + 3)
      have p2 := mv p1 a6
      obtain ⟨w3, a7, a8, a9⟩ := e_write_step a5 p2 (f := 2) (nI (tt_ho T o)) ho hw (by omega) (fun w7 =>
        (m_X5_setWrittenOf (nI o) (nI (tt_wr T o + 1)) w7).bind fun o8 =>
        (m_X7_updateOf (nI o) (nI (tt_wr T o + 1))).bind fun o9 =>
        (m_X3_arrive (nI (tt_ho T o)) (-1 : Int32) o9 o8).bind fun o10 =>
        some (nI (tt_wr T o + 1), o10.2)) (n + 2)
      have p3 := mv p2 a9
      obtain ⟨w4, b1, b2, b3⟩ := e_write_step a8 p3 (f := 3) (nI (tt_ho T o)) ho hw (by omega) (fun w7 =>
        (m_X5_setWrittenOf (nI o) (nI (tt_wr T o + 1)) w7).bind fun o8 =>
        (m_X7_updateOf (nI o) (nI (tt_wr T o + 1))).bind fun o9 =>
        (m_X3_arrive (nI (tt_ho T o)) (-1 : Int32) o9 o8).bind fun o10 =>
        some (nI (tt_wr T o + 1), o10.2)) (n + 1)
      have h5 : RepC 0 (wrT T o) (wset w4 53 o (nI (tt_wr T o + 1))) := rc_set_wr b2 o _
      have hu : upOk (tt_wr (wrT T o)) (100 * o + (tt_wr T o + 1)) := by
        refine ⟨o, tt_wr T o + 1, rfl, ho, by omega, ?_⟩
        show _ ≤ va_up (tt_wr T) o _ o
        rw [up_s]; omega
      obtain ⟨w6, d1, d2, d3⟩ := e_arrive h5 (wrT_inv I ho hw) (p := tt_ho T o) (fr := 8) hh hu
      rw [show frC 8 = -1 from rfl] at d1
      have fr : Fr w w4 := by
        intro k hk h4
        rw [b3 k (by omega), a9 k (by omega), a6 k (by omega), a3 k (by omega), c3 k h4]
      refine ⟨w6, ?_, d2, fr.tr ((Fr.set (by omega)).tr d3)⟩
      rw [a1, a4, a7, b1, m_X3_makeWrite_L56, if_pos (by rw [z_le (by omega) (by omega)]; omega)]
      rw [m_X5_setWrittenOf, if_neg (nI_pos (by omega)), if_neg (by rw [z_le (by omega) (by omega)]; omega), if_pos (by rw [z_ib (by omega)]; exact ho), lt_eq, nI_clamp (by omega), b_b, e_updateOf, b_b, d1, b_b]
    · have es : sp_write T o = (-3, T) := by rw [sp_write, if_pos ho, if_neg hw]
      rw [if_neg (by rw [z_lt (by omega) (by omega)]; exact hw), es]
      exact ⟨w, rfl, h, Fr.rf⟩
  · have e : sp_write T o = (-1, T) := if_neg ho
    rw [e_isOrigin_no (by omega) hoo, b_b, if_neg (by decide), e]
    exact ⟨w, rfl, h, Fr.rf⟩
