/-! ===== arriving, and what stays true ===== -/
theorem upOk_val {wr : Nat → Nat} {u : Nat} (h : upOk wr u) (hw : ∀ o, o < 4 → wr o ≤ 24) : valU u := by
  obtain ⟨o, v, e, h1, h2, h3⟩ := h
  have := hw o h1
  exact ⟨o, v, e, h1, h2, by omega⟩
theorem it_k25 {T : TT} (I : InvT T) : ∀ j, j < 32 → tt_kn T j 25 = false := by
  intro j hj
  have hk := I.2.2.2.2.2.2.2.2.1 (j / 4) (j % 4) 25 (by omega) (by omega)
  rw [show 4 * (j / 4) + j % 4 = j by omega] at hk
  have hw := I.2.2.2.2.2.1 (j % 4) (by omega)
  cases hc : tt_kn T j 25 with
  | false => rfl
  | true => have := hk hc; omega
theorem it_val {T : TT} (I : InvT T) {i : Nat} (hi : i < 24) : ∀ x ∈ tt_li T i, valU x := fun x hx => upOk_val (I.2.2.2.2.2.2.2.2.2.1 i x hi hx) I.2.2.2.2.2.1
theorem it_q12 {T : TT} (I : InvT T) : ∀ j, 8 ≤ j → j < 24 → (tt_li T j).length ≤ 12 := fun j h1 h2 => I.2.2.2.2.2.2.2.2.2.2.1 j h2 h1
theorem it_c12 {T : TT} (I : InvT T) {p : Nat} (h1 : 1 ≤ p) (hp : p < 8) : (tt_li T p).length ≤ 12 := I.2.2.2.2.2.2.2.2.2.2.2.1 p h1 hp
theorem it_c0 {T : TT} (I : InvT T) : (tt_li T 0).length = fb_ct (fun j => tt_kn T (j / 24) (j % 24 + 1)) 96 := I.2.2.2.2.2.2.2.2.2.2.2.2
theorem it_room {T : TT} (I : InvT T) {p o v : Nat} (hp : p < 8) (ho : o < 4) (h1 : 1 ≤ v) (hv : v ≤ 24) (hk : tt_kn T (4 * p + o) v = false) : (tt_li T p).length < lroom (2 * p) := by
  by_cases c : p = 0
  · subst c
    rw [it_c0 I]
    show _ < 96
    have hle := fb_ct_le (fun j => tt_kn T (j / 24) (j % 24 + 1)) 96
    rcases Nat.lt_or_ge (fb_ct (fun j => tt_kn T (j / 24) (j % 24 + 1)) 96) 96 with z | z
    · exact z
    · have := fb_ct_all.mp (Nat.le_antisymm hle z) (24 * o + (v - 1)) (by omega)
      rw [show (24 * o + (v - 1)) / 24 = o by omega, show (24 * o + (v - 1)) % 24 + 1 = v by omega] at this
      rw [show 4 * 0 + o = o by omega] at hk
      rw [hk] at this
      cases this
  · rw [lrc p hp (by omega)]
    have := it_c12 I (p := p) (by omega) hp
    omega
theorem e_arrive {T : TT} {w : Wd} (h : RepC 0 T w) (I : InvT T) {p fr u : Nat} (hp : p < tt_nu T 0) (hu : upOk (tt_wr T) u) : ∃ w', m_X3_arrive (nI p) (frC fr) (nI u) w = some (nI (if arrTold T p fr u = 1 then 1 else 0), w') ∧ RepC 0 (arrive T p fr u) w' ∧ Fr w w' := by
  have IB := I.B
  have hnp := it_np IB
  have hrl := IB.2.1
  have hu2 := upOk_val hu I.2.2.2.2.2.1
  obtain ⟨o, v, e, ho, h1, hv⟩ := id hu2
  have eo : u / 100 = o := by omega
  have ev : u % 100 = v := by omega
  unfold arrive arrTold
  rw [eo, ev]
  rw [m_X3_arrive, e, e_originOf ho hv, b_b, e_versionOf ho hv, b_b, e_knows h (by omega) ho h1 hv, b_b, ← e]
  by_cases k : tt_kn T (4 * p + o) v = true
  · rw [if_pos k, if_neg (by decide), if_pos k, if_pos rfl]
    exact ⟨w, rfl, h, Fr.rf⟩
  have kf : tt_kn T (4 * p + o) v = false := by simpa using k
  rw [if_neg k, if_pos (by decide), if_neg k]
  have lrn : ∃ w', m_X3_arrive_j75 (nI p) (frC fr) (nI u) (nI o) (nI v) w = some (nI 1, w') ∧ RepC 0 (learn T p fr u) w' ∧ Fr w w' := by
    obtain ⟨w1, a1, a2, a3⟩ := e_addKnown h (p := p) (by omega) ho h1 hv
    have B1 : InvB (addKn T p o v) := IB
    obtain ⟨w2, b1, b2, b3⟩ := e_keep a2 B1 (p := p) (u := u) hp (it_room I (by omega) ho h1 hv kf) (it_val I (by omega)) hu2
    have hq2 : ∀ j, 8 ≤ j → j < 24 → (tt_li (keep (addKn T p o v) p u) j).length ≤ 12 := by
      intro j j1 j2
      have := it_q12 I j j1 j2
      unfold keep
      split
      · show (va_up (tt_li T) p _ j).length ≤ 12
        rw [up_n (by omega)]; exact this
      · show (va_up (va_up (tt_li T) p _) p _ j).length ≤ 12
        rw [up_n (by omega), up_n (by omega)]; exact this
    have B2 : InvB (keep (addKn T p o v) p u) := by
      unfold keep
      split
      · exact IB
      · exact ⟨IB.1, IB.2.1, IB.2.2.1, IB.2.2.2⟩
    have hp2 : p < tt_nu (keep (addKn T p o v) p u) 0 := by
      unfold keep
      split
      · exact hp
      · exact hp
    obtain ⟨w3, c1, c2, c3⟩ := e_passOn b2 B2 (fr := fr) (u := u) hp2 hq2
    refine ⟨w3, ?_, ?_, (a3.tr b3).tr c3⟩
    · rw [m_X3_arrive_j75, a1, b_b, b1, b_b, c1, b_b]
    · unfold learn
      rw [eo, ev]
      exact c2
  by_cases c : p = 0
  · have n2 : ¬ (p ≠ 0 ∧ fr < 8 ∧ tt_nu T 1 < rgs T p o v) := fun q => q.1 c
    rw [if_pos (by rw [z_eq0 (by omega)]; exact c), if_neg n2, if_pos rfl, if_neg (by decide), if_neg (by decide)]
    exact lrn
  rw [if_neg (by rw [z_eq0 (by omega)]; exact c)]
  by_cases d : 8 ≤ fr
  · have n2 : ¬ (p ≠ 0 ∧ fr < 8 ∧ tt_nu T 1 < rgs T p o v) := fun q => by have := q.2.1; omega
    rw [if_pos (by rw [frC_m1]; exact d), if_neg n2, if_pos rfl, if_neg (by decide), if_neg (by decide)]
    exact lrn
  rw [if_neg (by rw [frC_m1]; exact d), e_rangesWith h (it_k25 I) (by omega) ho h1 hv, b_b, rc_nu h (by omega)]
  have hr : rgs T p o v < 2 ^ 31 := by
    have := rgW_le T p o v 0; have := rgW_le T p o v 1; have := rgW_le T p o v 2; have := rgW_le T p o v 3
    unfold rgs; omega
  by_cases g : rgs T p o v ≤ tt_nu T 1
  · have n2 : ¬ (p ≠ 0 ∧ fr < 8 ∧ tt_nu T 1 < rgs T p o v) := fun q => by have := q.2.2; omega
    rw [if_pos (by rw [z_le hr (by omega)]; exact g), if_neg n2, if_pos rfl, if_neg (by decide), if_neg (by decide)]
    exact lrn
  · have y2 : p ≠ 0 ∧ fr < 8 ∧ tt_nu T 1 < rgs T p o v := ⟨c, by omega, by omega⟩
    rw [if_neg (by rw [z_le hr (by omega)]; exact g), if_pos y2, if_neg (by decide), if_pos rfl, if_neg (by decide), lt_eq, rc_nu h (by omega), nI_add]
    exact ⟨_, rfl, rc_set_nu h _ _, Fr.set (by omega)⟩
/-- the queues may grow by u, all else stays -/
def SameQ (u : Nat) (T T' : TT) : Prop := tt_pa T' = tt_pa T ∧ tt_ho T' = tt_ho T ∧ tt_wr T' = tt_wr T ∧ tt_ca T' = tt_ca T ∧ tt_kn T' = tt_kn T ∧ (∀ j, j ≠ 4 → tt_nu T' j = tt_nu T j) ∧ (∀ i, i < 8 → tt_li T' i = tt_li T i) ∧ (∀ i, 8 ≤ i → (tt_li T i).length ≤ 12 → (tt_li T' i).length ≤ 12) ∧ ∀ i x, x ∈ tt_li T' i → x ∈ tt_li T i ∨ x = u
theorem SameQ.rf {u : Nat} {T : TT} : SameQ u T T := ⟨rfl, rfl, rfl, rfl, rfl, fun _ _ => rfl, fun _ _ => rfl, fun _ _ h => h, fun _ _ h => Or.inl h⟩
theorem SameQ.tr {u : Nat} {T T1 T2 : TT} (h : SameQ u T T1) (g : SameQ u T1 T2) : SameQ u T T2 := by
  obtain ⟨a1, a2, a3, a4, a5, a6, a7, a8, a9⟩ := h
  obtain ⟨b1, b2, b3, b4, b5, b6, b7, b8, b9⟩ := g
  exact ⟨b1.trans a1, b2.trans a2, b3.trans a3, b4.trans a4, b5.trans a5, fun j hj => (b6 j hj).trans (a6 j hj), fun i hi => (b7 i hi).trans (a7 i hi), fun i hi hl => b8 i hi (a8 i hi hl), fun i x hx => (b9 i x hx).elim (a9 i x) Or.inr⟩
theorem enq_same {u : Nat} (T : TT) {i : Nat} (hi : 8 ≤ i) : SameQ u T (enq T i u) := by
  unfold enq
  split
  · rename_i c
    refine ⟨rfl, rfl, rfl, rfl, rfl, fun _ _ => rfl, fun j hj => up_n (by omega), fun j hj hl => ?_, fun j x hx => ?_⟩
    · show (va_up (tt_li T) i (tt_li T i ++ [u]) j).length ≤ 12
      by_cases e : j = i
      · subst e; rw [up_s, List.length_append]; exact c
      · rw [up_n e]; exact hl
    · change x ∈ va_up (tt_li T) i (tt_li T i ++ [u]) j at hx
      by_cases e : j = i
      · subst e
        rw [up_s] at hx
        exact (List.mem_append.mp hx).elim Or.inl (fun z => Or.inr (List.mem_singleton.mp z))
      · rw [up_n e] at hx; exact Or.inl hx
  · exact ⟨rfl, rfl, rfl, rfl, rfl, fun j hj => up_n hj, fun _ _ => rfl, fun _ _ h => h, fun _ _ h => Or.inl h⟩
theorem pdown_same {p fr u : Nat} : ∀ (n c : Nat) (T : TT), SameQ u T (pdown p fr u n c T)
  | 0, _, _ => SameQ.rf
  | n + 1, c, T => by
    simp only [pdown]
    refine SameQ.tr ?_ (pdown_same n (c + 1) _)
    unfold pdStep
    split
    · exact enq_same T (by omega)
    · exact SameQ.rf
theorem passOn_same (T : TT) (p fr u : Nat) : SameQ u T (passOn T p fr u) := by
  unfold passOn
  refine SameQ.tr ?_ (pdown_same _ _ _)
  split
  · exact enq_same T (by omega)
  · exact SameQ.rf
theorem SameQ.inv {u : Nat} {T T' : TT} (h : SameQ u T T') (I : InvT T) (hu : upOk (tt_wr T) u) : InvT T' := by
  obtain ⟨a1, a2, a3, a4, a5, a6, a7, a8, a9⟩ := h
  obtain ⟨i1, i2, i3, i4, i5, i6, i7, i8, i9, i10, i11, i12, i13⟩ := I
  unfold InvT
  rw [a1, a2, a3, a4, a5, a6 0 (by omega), a6 1 (by omega), a6 2 (by omega), a7 0 (by omega)]
  refine ⟨i1, i2, i3, i4, i5, i6, i7, i8, i9, fun i x hi hx => ?_, fun i hi h8 => a8 i h8 (i11 i hi h8), fun i h1 hi => by rw [a7 i hi]; exact i12 i h1 hi, i13⟩
  rcases a9 i x hx with z | z
  · exact i10 i x hi z
  · rw [z]; exact hu
theorem ct_known (T : TT) {o v : Nat} (ho : o < 4) (h1 : 1 ≤ v) (hv : v ≤ 24) (hk : tt_kn T o v = false) : fb_ct (fun j => va_up (tt_kn T) o (va_up (tt_kn T o) v true) (j / 24) (j % 24 + 1)) 96 = fb_ct (fun j => tt_kn T (j / 24) (j % 24 + 1)) 96 + 1 := by
  have e : fb_ct (fun j => va_up (tt_kn T) o (va_up (tt_kn T o) v true) (j / 24) (j % 24 + 1)) 96 = fb_ct (fun j => if j = 24 * o + (v - 1) then true else tt_kn T (j / 24) (j % 24 + 1)) 96 := by
    apply fb_ct_cong
    intro j hj
    by_cases c : j = 24 * o + (v - 1)
    · rw [if_pos c, c, show (24 * o + (v - 1)) / 24 = o by omega, show (24 * o + (v - 1)) % 24 + 1 = v by omega, up_s, up_s]
    · rw [if_neg c]
      by_cases d : j / 24 = o
      · rw [d, up_s, up_n (by omega)]
      · rw [up_n d]
  rw [e]
  have h2 := fb_ct_upd (fun j => tt_kn T (j / 24) (j % 24 + 1)) true (i := 24 * o + (v - 1)) (n := 96) (by omega)
  rw [show (24 * o + (v - 1)) / 24 = o by omega, show (24 * o + (v - 1)) % 24 + 1 = v by omega, hk] at h2
  simpa using h2
theorem keep_inv {T : TT} (I : InvT T) {p o v u : Nat} (hp : p < 8) (e : u = 100 * o + v) (ho : o < 4) (h1 : 1 ≤ v) (hv : v ≤ tt_wr T o) (hk : tt_kn T (4 * p + o) v = false) : InvT (keep (addKn T p o v) p u) := by
  obtain ⟨i1, i2, i3, i4, i5, i6, i7, i8, i9, i10, i11, i12, i13⟩ := I
  have h24 := i6 o ho
  have k9 : ∀ p' o' v', p' < 8 → o' < 4 → tt_kn (addKn T p o v) (4 * p' + o') v' = true → 1 ≤ v' ∧ v' ≤ tt_wr T o' := by
    intro p' o' v' hp' ho' hk'
    change va_up (tt_kn T) (4 * p + o) (va_up (tt_kn T (4 * p + o)) v true) (4 * p' + o') v' = true at hk'
    by_cases c : 4 * p' + o' = 4 * p + o
    · have c1 : p' = p := by omega
      have c2 : o' = o := by omega
      subst c1; subst c2
      rw [up_s] at hk'
      by_cases d : v' = v
      · subst d; exact ⟨h1, hv⟩
      · rw [up_n d] at hk'; exact i9 p' o' v' hp' ho' hk'
    · rw [up_n c] at hk'; exact i9 p' o' v' hp' ho' hk'
  have hu : upOk (tt_wr T) u := ⟨o, v, e, ho, h1, hv⟩
  have l10 : ∀ i x, i < 24 → x ∈ va_up (tt_li T) p (tt_li T p ++ [u]) i → upOk (tt_wr T) x := by
    intro i x hi hx
    by_cases c : i = p
    · subst c
      rw [up_s] at hx
      rcases List.mem_append.mp hx with z | z
      · exact i10 i x hi z
      · rw [List.mem_singleton.mp z]; exact hu
    · rw [up_n c] at hx; exact i10 i x hi hx
  have c13 : p ≠ 0 → fb_ct (fun j => tt_kn (addKn T p o v) (j / 24) (j % 24 + 1)) 96 = fb_ct (fun j => tt_kn T (j / 24) (j % 24 + 1)) 96 := by
    intro hp0
    apply fb_ct_cong
    intro j hj
    show va_up (tt_kn T) (4 * p + o) _ (j / 24) (j % 24 + 1) = _
    rw [up_n (by omega)]
  unfold keep
  by_cases c : p = 0 ∨ (tt_li T p).length + 1 ≤ tt_nu T 2
  · rw [if_pos (show p = 0 ∨ (tt_li (addKn T p o v) p).length + 1 ≤ tt_nu (addKn T p o v) 2 from c)]
    refine ⟨i1, i2, i3, i4, i5, i6, i7, i8, k9, l10, fun i hi h8 => ?_, fun i hi1 hi => ?_, ?_⟩
    · show (va_up (tt_li T) p _ i).length ≤ 12
      rw [up_n (by omega)]; exact i11 i hi h8
    · show (va_up (tt_li T) p _ i).length ≤ 12
      by_cases d : i = p
      · subst d
        rw [up_s, List.length_append]
        show (tt_li T i).length + 1 ≤ 12
        rcases c with c | c
        · omega
        · have := i3.2; omega
      · rw [up_n d]; exact i12 i hi1 hi
    · show (va_up (tt_li T) p (tt_li T p ++ [u]) 0).length = _
      by_cases d : p = 0
      · subst d
        rw [up_s, List.length_append]
        show (tt_li T 0).length + 1 = fb_ct (fun j => va_up (tt_kn T) (4 * 0 + o) (va_up (tt_kn T (4 * 0 + o)) v true) (j / 24) (j % 24 + 1)) 96
        rw [show 4 * 0 + o = o by omega] at hk ⊢
        rw [ct_known T ho h1 (by omega) hk, i13]
      · rw [up_n (Ne.symm d)]; exact i13.trans (c13 d).symm
  · rw [if_neg (show ¬ (p = 0 ∨ (tt_li (addKn T p o v) p).length + 1 ≤ tt_nu (addKn T p o v) 2) from c)]
    have hp0 : p ≠ 0 := fun z => c (Or.inl z)
    have hl := i12 p (by omega) hp
    refine ⟨i1, i2, i3, i4, i5, i6, i7, i8, k9, fun i x hi hx => ?_, fun i hi h8 => ?_, fun i hi1 hi => ?_, ?_⟩
    · change x ∈ va_up (va_up (tt_li T) p (tt_li T p ++ [u])) p _ i at hx
      by_cases d : i = p
      · subst d
        rw [up_s] at hx
        have hx2 := List.mem_of_mem_eraseIdx hx
        exact l10 i x hi hx2
      · rw [up_n d] at hx; exact l10 i x hi hx
    · show (va_up (va_up (tt_li T) p _) p _ i).length ≤ 12
      rw [up_n (by omega), up_n (by omega)]; exact i11 i hi h8
    · show (va_up (va_up (tt_li T) p (tt_li T p ++ [u])) p _ i).length ≤ 12
      by_cases d : i = p
      · subst d
        rw [up_s]
        have ev : tt_li (addLi (addKn T i o v) i u) i = tt_li T i ++ [u] := up_s _ _ _
        rw [ev]
        have hf := fsv_lt (P := pfx (addLi (addKn T i o v) i u) i) (l := tt_li T i ++ [u]) (by simp)
        rw [List.length_eraseIdx_of_lt hf, List.length_append]
        show (tt_li T i).length + 1 - 1 ≤ 12
        omega
      · rw [up_n d, up_n d]; exact i12 i hi1 hi
    · show (va_up (va_up (tt_li T) p (tt_li T p ++ [u])) p _ 0).length = fb_ct (fun j => tt_kn (addKn T p o v) (j / 24) (j % 24 + 1)) 96
      rw [up_n (Ne.symm hp0), up_n (Ne.symm hp0), c13 hp0]; exact i13
theorem keep_wr (T : TT) (p o v u : Nat) : tt_wr (keep (addKn T p o v) p u) = tt_wr T := by
  unfold keep
  split <;> rfl
theorem arrive_inv {T : TT} (I : InvT T) {p fr u : Nat} (hp : p < 8) (hu : upOk (tt_wr T) u) : InvT (arrive T p fr u) := by
  unfold arrive
  split
  · exact I
  · rename_i c
    split
    · obtain ⟨i1, i2, i3, i4, i5, i6, i7, i8, i9, i10, i11, i12, i13⟩ := I
      exact ⟨i1, i2, i3, i4, i5, i6, i7, i8, i9, i10, i11, i12, i13⟩
    · obtain ⟨o, v, e, ho, h1, hv⟩ := id hu
      have h24 := I.2.2.2.2.2.1 o ho
      have eo : u / 100 = o := by omega
      have ev : u % 100 = v := by omega
      have kf : tt_kn T (4 * p + o) v = false := by
        cases k : tt_kn T (4 * p + o) v with
        | false => rfl
        | true => exact absurd (by unfold arrTold; rw [eo, ev, k]; rfl) c
      unfold learn
      rw [eo, ev]
      exact (passOn_same _ p fr u).inv (keep_inv I hp e ho h1 hv kf) (by rw [keep_wr]; exact hu)
