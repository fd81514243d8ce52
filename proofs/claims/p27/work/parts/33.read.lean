/-! ===== read ===== -/
section READ
variable {T : TT} {w : Wd}
abbrev wasW (T : TT) (o v : Nat) : Prop := o < 4 ∧ 1 ≤ v ∧ v ≤ tt_wr T o
theorem e_wasWritten (h : RepC 0 T w) (I : InvT T) (x y : Int32) : m_X5_wasWritten x y w = some (nI (if wasW T (dn x) (dn y) then 1 else 0)) := by
  rw [m_X5_wasWritten]
  unfold wasW
  rcases z_or x with hx | ⟨o, hoo, rfl⟩
  · rw [e_isOrigin_neg hx, b_b, if_pos (by decide), dn_neg hx, if_neg (by omega)]
  rw [dn_nI hoo]
  by_cases ho : o < 4
  · have h24 := it_wr I ho
    rw [e_isOrigin ho, b_b, if_neg (by decide)]
    rcases z_or y with hy | ⟨v, hv, rfl⟩
    · have hy1 : y < nI 1 := by
        rw [fa_lt] at hy ⊢
        have e1 : (0 : Int32).toInt = 0 := by decide
        have e2 : (nI 1).toInt = 1 := by decide
        omega
      rw [if_pos hy1, dn_neg hy, if_neg (by omega)]
    rw [dn_nI hv]
    by_cases c : 1 ≤ v
    · rw [if_neg (by rw [z_lt (by omega) (by omega)]; omega), e_writtenOf h ho, b_b]
      by_cases d : v ≤ tt_wr T o
      · rw [if_neg (by rw [z_lt (by omega) (by omega)]; omega), if_pos ⟨ho, c, d⟩]
      · rw [if_pos (by rw [z_lt (by omega) (by omega)]; omega), if_neg (fun q => d q.2.2)]
    · rw [if_pos (by rw [z_lt (by omega) (by omega)]; omega), if_neg (fun q => c q.2.1)]
  · rw [e_isOrigin_no (by omega) hoo, b_b, if_pos (by decide), if_neg (fun q => ho q.1)]
theorem lr_c {T : TT} (I : InvT T) {p : Nat} (hp : p < 8) : (tt_li T p).length ≤ lroom (2 * p) := by
  by_cases c : p = 0
  · subst c
    rw [it_c0 I]
    exact fb_ct_le _ 96
  · rw [lrc p hp (by omega)]
    have := it_c12 I (p := p) (by omega) hp
    omega
theorem e_keeps (h : RepC 0 T w) (I : InvT T) {p u : Nat} (hp : p < tt_nu T 0) (hu : u < 2 ^ 31) : m_X5_keeps (nI p) (nI u) w = some (nI (if u ∈ tt_li T p then 1 else 0)) := by
  have hnp := it_np I.B
  rw [m_X5_keeps, e_contentsOf h I.B hp, b_b, e_has (rc_li h (by omega)) (lr_c I (by omega)) (lrb p (by omega)) hu (fun y hy => by have := valU_lt (it_val I (by omega) y hy); omega), b_b]
  by_cases c : u ∈ tt_li T p
  · rw [if_pos c, if_pos c]; rfl
  · rw [if_neg c, if_neg c]; rfl
/-- the hops to the nearest proxy that keeps u; 99: none does -/
def hopF (T : TT) (u : Nat) : Nat → Nat → Nat → Nat
  | 0, _, _ => 99
  | n + 1, a, k => if u ∈ tt_li T a then k else if a = 0 then 99 else hopF T u n (tt_pa T a) (k + 1)
theorem hopF_le (T : TT) (u : Nat) : ∀ (n a k : Nat), hopF T u n a k = 99 ∨ (k ≤ hopF T u n a k ∧ hopF T u n a k < k + n) := by
  intro n
  induction n with
  | zero => intro a k; exact Or.inl rfl
  | succ n ih =>
    intro a k
    rw [hopF]
    split
    · exact Or.inr (by omega)
    · split
      · exact Or.inl rfl
      · rcases ih (tt_pa T a) (k + 1) with e | e
        · exact Or.inl e
        · exact Or.inr (by omega)
theorem e_hops_L (h : RepC 0 T w) (I : InvT T) {u : Nat} (hu : u < 2 ^ 31) : ∀ (d n k a : Nat), k + d = 8 → d < n → a < tt_nu T 0 → m_X3_hopsToContent_L5 (nI u) w n (nI a) (nI k) = some (if hopF T u d a k = 99 then -9 else nI (hopF T u d a k)) := by
  have hnp := it_np I.B
  intro d
  induction d with
  | zero =>
    intro n k a hk hn ha
    obtain ⟨n, rfl⟩ : ∃ m, n = m + 1 := ⟨n - 1, by omega⟩
    rw [m_X3_hopsToContent_L5, if_pos (by rw [z_le (by omega) (by omega)]; omega), hopF, if_pos rfl]
  | succ d ih =>
    intro n k a hk hn ha
    obtain ⟨n, rfl⟩ : ∃ m, n = m + 1 := ⟨n - 1, by omega⟩
    rw [m_X3_hopsToContent_L5, if_neg (by rw [z_le (by omega) (by omega)]; omega), e_keeps h I ha hu, b_b, hopF]
    by_cases c : u ∈ tt_li T a
    · rw [if_pos c, if_neg (by decide), if_pos c, if_neg (by omega)]
    · rw [if_neg c, if_pos (by decide), if_neg c]
      by_cases g : a = 0
      · rw [if_neg (by rw [g]; decide), if_pos g, if_pos rfl]
      · have := I.2.2.2.1.2 a (by omega) (by omega)
        rw [if_pos (by rw [z_eq0 (by omega)]; exact g), if_neg g, e_parentOf h (by omega), b_b, nI_add, ih n (k + 1) (tt_pa T a) (by omega) (by omega) (by omega)]
def sp_read (T : TT) (p o v : Nat) : Int32 × TT := if p < tt_nu T 0 ∧ wasW T o v then (if v ≤ pfx T p o then (if hopF T (100 * o + v) 8 p 0 = 99 then (-9, T) else (nI (hopF T (100 * o + v) 8 p 0), if 0 < hopF T (100 * o + v) 8 p 0 then keep T p (100 * o + v) else T)) else (-2, T)) else (-1, T)
theorem hop_root {T : TT} {u : Nat} {n : Nat} (h : hopF T u n 0 0 ≠ 99) : hopF T u n 0 0 = 0 := by
  cases n with
  | zero => exact absurd rfl h
  | succ n =>
    rw [hopF] at h ⊢
    split
    · rfl
    · rename_i c; rw [if_neg c, if_pos rfl] at h; exact absurd rfl h
theorem keepR_inv {T : TT} (I : InvT T) {p u : Nat} (hp0 : p ≠ 0) (hp : p < 8) (hu : upOk (tt_wr T) u) : InvT (keep T p u) := by
  obtain ⟨i1, i2, i3, i4, i5, i6, i7, i8, i9, i10, i11, i12, i13⟩ := I
  have hl := i12 p (by omega) hp
  have l10 : ∀ i x, i < 24 → x ∈ va_up (tt_li T) p (tt_li T p ++ [u]) i → upOk (tt_wr T) x := by
    intro i x hi hx
    by_cases c : i = p
    · subst c
      rw [up_s] at hx
      rcases List.mem_append.mp hx with z | z
      · exact i10 i x hi z
      · rw [List.mem_singleton.mp z]; exact hu
    · rw [up_n c] at hx; exact i10 i x hi hx
  unfold keep
  by_cases c : p = 0 ∨ (tt_li T p).length + 1 ≤ tt_nu T 2
  · rw [if_pos c]
    refine ⟨i1, i2, i3, i4, i5, i6, i7, i8, i9, l10, fun i hi h8 => ?_, fun i hi1 hi => ?_, ?_⟩
    · show (va_up (tt_li T) p _ i).length ≤ 12
      rw [up_n (by omega)]; exact i11 i hi h8
    · show (va_up (tt_li T) p _ i).length ≤ 12
      by_cases d : i = p
      · subst d
        rw [up_s, List.length_append]
        show (tt_li T i).length + 1 ≤ 12
        rcases c with c | c
        · omega
        · have := i3.2; omega
      · rw [up_n d]; exact i12 i hi1 hi
    · show (va_up (tt_li T) p (tt_li T p ++ [u]) 0).length = _
      rw [up_n (Ne.symm hp0)]; exact i13
  · rw [if_neg c]
    have e1 : tt_li (addLi T p u) p = tt_li T p ++ [u] := up_s _ _ _
    have el : (tt_li (addLi T p u) p).length = (tt_li T p).length + 1 := by rw [e1, List.length_append]; rfl
    have hf := fsv_lt (P := pfx (addLi T p u) p) (l := tt_li (addLi T p u) p) (by omega)
    refine ⟨i1, i2, i3, i4, i5, i6, i7, i8, i9, fun i x hi hx => ?_, fun i hi h8 => ?_, fun i hi1 hi => ?_, ?_⟩
    · change x ∈ va_up (tt_li (addLi T p u)) p _ i at hx
      by_cases d : i = p
      · subst d
        rw [up_s] at hx
        have := List.mem_of_mem_eraseIdx hx
        exact l10 i x hi this
      · rw [up_n d] at hx; exact l10 i x hi hx
    · show (va_up (va_up (tt_li T) p (tt_li T p ++ [u])) p _ i).length ≤ 12
      rw [up_n (by omega), up_n (by omega)]; exact i11 i hi h8
    · show (va_up (tt_li (addLi T p u)) p _ i).length ≤ 12
      by_cases d : i = p
      · subst d
        rw [up_s, List.length_eraseIdx_of_lt hf, el]
        omega
      · rw [up_n d]
        show (va_up (tt_li T) p _ i).length ≤ 12
        rw [up_n d]; exact i12 i hi1 hi
    · show (va_up (va_up (tt_li T) p (tt_li T p ++ [u])) p _ 0).length = _
      rw [up_n (Ne.symm hp0), up_n (Ne.symm hp0)]; exact i13
theorem wasW_up {T : TT} {o v : Nat} (h : wasW T o v) : upOk (tt_wr T) (100 * o + v) := ⟨o, v, rfl, h.1, h.2.1, h.2.2⟩
theorem e_fetchContent (h : RepC 0 T w) (I : InvT T) (x y z : Int32) : ∃ w', m_X3_fetchContent x y z w = some ((sp_read T (dn x) (dn y) (dn z)).1, w') ∧ RepC 0 (sp_read T (dn x) (dn y) (dn z)).2 w' ∧ Fr w w' := by
  have IB := I.B
  have hnp := it_np IB
  have bad : ¬ (dn x < tt_nu T 0 ∧ wasW T (dn y) (dn z)) → ∃ w', some ((-1 : Int32), w) = some ((sp_read T (dn x) (dn y) (dn z)).1, w') ∧ RepC 0 (sp_read T (dn x) (dn y) (dn z)).2 w' ∧ Fr w w' := by
    intro hab
    have e : sp_read T (dn x) (dn y) (dn z) = (-1, T) := if_neg hab
    rw [e]
    exact ⟨w, rfl, h, Fr.rf⟩
  rw [m_X3_fetchContent]
  rcases z_or x with hx | ⟨p, hpp, rfl⟩
  · rw [e_hasProxy_neg hx, b_b, if_pos (by decide)]
    exact bad (by rw [dn_neg hx]; omega)
  rw [dn_nI hpp] at bad ⊢
  by_cases hp : p < tt_nu T 0
  · rw [e_hasProxy h IB hp, b_b, if_neg (by decide), e_wasWritten h I, b_b]
    by_cases hw : wasW T (dn y) (dn z)
    · rw [if_pos hw, if_pos (by decide)]
      rcases z_or y with hy | ⟨o, hoo, rfl⟩
      · have := hw.1; rw [dn_neg hy] at this; omega
      rw [dn_nI hoo] at hw ⊢
      have h24 := it_wr I hw.1
      rcases z_or z with hz | ⟨v, hvv, rfl⟩
      · have := hw.2.2; rw [dn_neg hz] at this; omega
      rw [dn_nI hvv] at hw ⊢
      obtain ⟨w1, a1, a2⟩ := e_servedOf h IB (p := p) (o := o) (by omega) hw.1
      have h1 := rc_474 h a2
      have hP := pfx_le T p o
      have f1 : Fr w w1 := Fr.of474 a2
      have hv := hw.2.2
      have hv1 := hw.2.1
      have ho := hw.1
      rw [a1, b_b]
      dsimp only
      by_cases c : v ≤ pfx T p o
      · rw [if_pos (by rw [z_le (by omega) (by omega)]; exact c), e_updateOf, b_b, m_X3_hopsToContent, e_hops_L h1 I (by omega) 8 FU 0 p (by omega) (by have := FUb; omega) hp, b_b]
        have hh := hopF_le T (100 * o + v) 8 p 0
        have es : sp_read T p o v = (if hopF T (100 * o + v) 8 p 0 = 99 then (-9, T) else (nI (hopF T (100 * o + v) 8 p 0), if 0 < hopF T (100 * o + v) 8 p 0 then keep T p (100 * o + v) else T)) := by rw [sp_read, if_pos ⟨hp, hw⟩, if_pos c]
        rw [es]
        by_cases d : hopF T (100 * o + v) 8 p 0 = 99
        · rw [if_pos d, if_pos d, if_pos (by decide)]
          exact ⟨w1, rfl, h1, f1⟩
        · rw [if_neg d, if_neg d]
          by_cases g : 0 < hopF T (100 * o + v) 8 p 0
          · have hp0 : p ≠ 0 := by
              intro e
              rw [e] at d g
              have := hop_root d
              omega
            rw [if_neg (by rw [z_le0 (by omega)]; omega)]
            obtain ⟨w2, b1, b2, b3⟩ := e_keep h1 IB (p := p) (u := 100 * o + v) hp (by rw [lrc p (by omega) (by omega)]; have := it_c12 I (p := p) (by omega) (by omega); omega) (it_val I (by omega)) ⟨o, v, rfl, ho, hv1, by omega⟩
            rw [b1, b_b]
            exact ⟨w2, rfl, by rw [if_pos g]; exact b2, f1.tr b3⟩
          · rw [if_pos (by rw [z_le0 (by omega)]; omega)]
            exact ⟨w1, rfl, by rw [if_neg g]; exact h1, f1⟩
      · have es : sp_read T p o v = (-2, T) := by rw [sp_read, if_pos ⟨hp, hw⟩, if_neg c]
        rw [if_neg (by rw [z_le (by omega) (by omega)]; exact c), es]
        exact ⟨w1, rfl, h1, f1⟩
    · rw [if_neg hw, if_neg (by decide)]
      exact bad (fun q => hw q.2)
  · rw [e_hasProxy_no h IB (by omega) hpp, b_b, if_pos (by decide)]
    exact bad (fun q => hp q.1)
theorem sp_read_inv {T : TT} (I : InvT T) (p o v : Nat) : InvT (sp_read T p o v).2 := by
  unfold sp_read
  by_cases c : p < tt_nu T 0 ∧ wasW T o v
  · rw [if_pos c]
    by_cases d : v ≤ pfx T p o
    · rw [if_pos d]
      by_cases e : hopF T (100 * o + v) 8 p 0 = 99
      · rw [if_pos e]; exact I
      · rw [if_neg e]
        show InvT (if _ then _ else _)
        by_cases g : 0 < hopF T (100 * o + v) 8 p 0
        · rw [if_pos g]
          have := I.1
          refine keepR_inv I (fun z => ?_) (by omega) (wasW_up c.2)
          rw [z] at e g
          have := hop_root e
          omega
        · rw [if_neg g]; exact I
    · rw [if_neg d]; exact I
  · rw [if_neg c]; exact I
end READ
/-! ===== invariants of the other steps ===== -/
theorem sp_addProxy_inv {T : TT} (I : InvT T) (p : Nat) : InvT (sp_addProxy T p).2 := by
  unfold sp_addProxy
  split
  · rename_i c
    split
    · rename_i d
      obtain ⟨i1, i2, i3, i4, i5, i6, i7, i8, i9, i10, i11, i12, i13⟩ := I
      refine ⟨⟨?_, ?_⟩, ?_, ?_, ⟨?_, fun q h1 h8 => ?_⟩, fun o ho => ?_, i6, i7, i8, i9, i10, i11, i12, i13⟩
      · show 1 ≤ va_up (tt_nu T) 0 (tt_nu T 0 + 1) 0; rw [up_s]; omega
      · show va_up (tt_nu T) 0 (tt_nu T 0 + 1) 0 ≤ 8; rw [up_s]; omega
      · show va_up (tt_nu T) 0 (tt_nu T 0 + 1) 1 ≤ 8; rw [up_n (by decide)]; exact i2
      · show 1 ≤ va_up (tt_nu T) 0 (tt_nu T 0 + 1) 2 ∧ va_up (tt_nu T) 0 (tt_nu T 0 + 1) 2 ≤ 12; rw [up_n (by decide)]; exact i3
      · show va_up (tt_pa T) (tt_nu T 0) p 0 = 0; rw [up_n (by omega)]; exact i4.1
      · show va_up (tt_pa T) (tt_nu T 0) p q < q
        by_cases e : q = tt_nu T 0
        · subst e; rw [up_s]; exact c
        · rw [up_n e]; exact i4.2 q h1 h8
      · show tt_ho T o < va_up (tt_nu T) 0 (tt_nu T 0 + 1) 0
        rw [up_s]; have := i5 o ho; omega
    · exact I
  · exact I
theorem sp_setHome_inv {T : TT} (I : InvT T) (o p : Nat) : InvT (sp_setHome T o p).2 := by
  unfold sp_setHome
  split
  · rename_i c
    split
    · exact I
    · obtain ⟨i1, i2, i3, i4, i5, i6, i7, i8, i9, i10, i11, i12, i13⟩ := I
      refine ⟨i1, i2, i3, i4, fun q hq => ?_, i6, i7, i8, i9, i10, i11, i12, i13⟩
      show va_up (tt_ho T) o p q < tt_nu T 0
      by_cases e : q = o
      · subst e; rw [up_s]; exact c.2
      · rw [up_n e]; exact i5 q hq
  · exact I
theorem sp_setLimits_inv {T : TT} (I : InvT T) (r m : Nat) : InvT (sp_setLimits T r m).2 := by
  unfold sp_setLimits
  split
  · rename_i c
    obtain ⟨i1, i2, i3, i4, i5, i6, i7, i8, i9, i10, i11, i12, i13⟩ := I
    refine ⟨?_, ?_, ?_, i4, ?_, i6, i7, i8, i9, i10, i11, i12, i13⟩
    · show 1 ≤ va_up (va_up (tt_nu T) 1 r) 2 m 0 ∧ va_up (va_up (tt_nu T) 1 r) 2 m 0 ≤ 8
      rw [up_n (by decide), up_n (by decide)]; exact i1
    · show va_up (va_up (tt_nu T) 1 r) 2 m 1 ≤ 8
      rw [up_n (by decide), up_s]; exact c.1
    · show 1 ≤ va_up (va_up (tt_nu T) 1 r) 2 m 2 ∧ va_up (va_up (tt_nu T) 1 r) 2 m 2 ≤ 12
      rw [up_s]; exact c.2
    · intro o ho
      show tt_ho T o < va_up (va_up (tt_nu T) 1 r) 2 m 0
      rw [up_n (by decide), up_n (by decide)]; exact i5 o ho
  · exact I
theorem sp_lose_inv {T : TT} (I : InvT T) (c d n : Nat) : InvT (sp_lose T c d n).2 := by
  unfold sp_lose
  by_cases a : ((1 ≤ c ∧ c < tt_nu T 0) ∧ d < 2) ∧ 1 ≤ n ∧ n ≤ 9
  · rw [if_pos a]
    by_cases g : (tt_li T (qi c d)).length = 0
    · rw [if_pos g]; exact I
    · rw [if_neg g]
      have h8 : 8 ≤ qi c d := by unfold qi; split <;> omega
      have J := drop_inv I h8 (min n (tt_li T (qi c d)).length)
      obtain ⟨i1, i2, i3, i4, i5, i6, i7, i8, i9, i10, i11, i12, i13⟩ := J
      generalize min n (tt_li T (qi c d)).length = m at *
      refine ⟨?_, ?_, ?_, i4, ?_, i6, i7, i8, i9, i10, i11, i12, i13⟩
      · show 1 ≤ va_up (tt_nu T) 5 (tt_nu T 5 + m) 0 ∧ va_up (tt_nu T) 5 (tt_nu T 5 + m) 0 ≤ 8
        rw [up_n (by decide)]; exact i1
      · show va_up (tt_nu T) 5 (tt_nu T 5 + m) 1 ≤ 8
        rw [up_n (by decide)]; exact i2
      · show 1 ≤ va_up (tt_nu T) 5 (tt_nu T 5 + m) 2 ∧ va_up (tt_nu T) 5 (tt_nu T 5 + m) 2 ≤ 12
        rw [up_n (by decide)]; exact i3
      · intro o ho
        show tt_ho T o < va_up (tt_nu T) 5 (tt_nu T 5 + m) 0
        rw [up_n (by decide)]; exact i5 o ho
  · rw [if_neg a]; exact I
theorem sp_deliver_inv {T : TT} (I : InvT T) (c d n : Nat) : InvT (sp_deliver T c d n).2 := by
  unfold sp_deliver
  by_cases a : ((1 ≤ c ∧ c < tt_nu T 0) ∧ d < 2) ∧ 1 ≤ n ∧ n ≤ 9
  · rw [if_pos a]
    by_cases g : (tt_li T (qi c d)).length = 0
    · rw [if_pos g]; exact I
    · rw [if_neg g]
      have h8 : 8 ≤ qi c d := by unfold qi; split <;> omega
      have := I.1
      have := I.2.2.2.1.2 c (by omega) (by omega)
      exact (dlv_ok _ _ _ (by split <;> omega) h8 (by unfold qi; split <;> omega) (by unfold qi; split <;> omega) (by unfold qi; split <;> omega) n T I).1
  · rw [if_neg a]; exact I
