/-! ===== the law's put, take and has ===== -/
def val12 (u : Nat) : Prop := ∃ o v, u = 100 * o + v ∧ o < 4 ∧ 1 ≤ v ∧ v ≤ 12
theorem val12_lu {u : Nat} (h : val12 u) : lu u < 64 ∧ lu u / 16 = u / 100 ∧ lu u % 16 = u % 100 ∧ u / 100 < 4 ∧ 1 ≤ u % 100 ∧ u % 100 ≤ 12 ∧ 100 * (lu u / 16) + lu u % 16 = u := by
  obtain ⟨o, v, rfl, h1, h2, h3⟩ := h
  unfold lu
  omega
theorem lu_ov {o v : Nat} (hv : v ≤ 12) : lu (100 * o + v) = 16 * o + v := by unfold lu; omega
theorem lu_inj {a b : Nat} (ha : val12 a) (hb : val12 b) (e : lu a = lu b) : a = b := by
  have h1 := (val12_lu ha).2.2.2.2.2.2
  have h2 := (val12_lu hb).2.2.2.2.2.2
  rw [e] at h1
  omega
section LQ
variable {T : TT} {w : Wd}
theorem e13 {c : Nat} (h1 : 1 ≤ c) : nI 13 * (nI c - nI 1) = nI (13 * (c - 1)) := by rw [z_sub h1, pk_mul]
theorem l_put (h : RepL T w) (L : Len T) (N : Nat) {r d c : Nat} (hrd : r = 493 ∧ d = 8 ∨ r = 494 ∧ d = 16) (h1 : 1 ≤ c) (hc : c < 5) (u : Nat) : ∃ w', m_L_put 490 r (nI c) (nI (lu u)) w = some w' ∧ RepL (enq T (d + c) u) w' ∧ LFr N w w' := by
  have hrd3 : rdOk r d := by rcases hrd with e | e; exact Or.inl e; exact Or.inr (Or.inl e)
  have hr : 493 ≤ r ∧ r < 497 ∧ d + c < 24 ∧ 1 ≤ d + c := by rcases hrd with ⟨rfl, rfl⟩ | ⟨rfl, rfl⟩ <;> omega
  have hg := rl_get h hrd3 h1 hc
  have hl := L (d + c) hr.2.2.2 hr.2.2.1
  obtain ⟨b, hb⟩ : ∃ b, b = 13 * (c - 1) := ⟨_, rfl⟩
  rw [← hb] at hg
  have ib52 : ib (nI b) 52 := by rw [z_ib (by omega)]; omega
  have cl : (nI b).toNatClampNeg = b := nI_clamp (by omega)
  obtain ⟨l, hll⟩ : ∃ l, l = tt_li T (d + c) := ⟨_, rfl⟩
  rw [← hll] at hg hl
  rw [m_L_put, e13 h1, ← hb, lt_eq, if_pos ib52]
  simp only [cl, hg.1]
  by_cases k : l.length < 12
  · have ee : enq T (d + c) u = ts_li T (va_up (tt_li T) (d + c) (l ++ [u])) := by unfold enq; rw [← hll, if_pos k]; unfold addLi; rw [← hll]
    rw [if_pos (by rw [z_le (by omega) (by omega)]; omega), if_pos ib52, if_pos ib52, lt_eq, if_pos ib52, nI_add]
    have e1 : wset w r b (nI (l.length + 1)) r b = nI (l.length + 1) := by rw [wset_same, upd_s]
    rw [e1, nI_add, if_pos (by rw [z_ib (by omega)]; omega), lt_eq, nI_clamp (by omega), ee]
    refine ⟨_, rfl, ?_, (LFr.set (by omega) (Or.inl hr.2.1) (by omega)).tr (LFr.set (by omega) (Or.inl hr.2.1) (by omega))⟩
    refine rl_set_li h L hrd3 h1 hc (w' := wset (wset w r b (nI (l.length + 1))) r (b + (l.length + 1)) (nI (lu u))) ?_ (fun j hj => ?_) (fun j j1 j2 j3 => ?_)
    · rw [wset_same, wset_same, ← hb]; exact rlr_app hg u
    · rw [wset_same, wset_same, upd_n (by omega), upd_n (by omega)]
    · rw [wset_ne j3, wset_ne j3]
  · have ee : enq T (d + c) u = ts_nu T (va_up (tt_nu T) 4 (tt_nu T 4 + 1)) := by unfold enq; rw [← hll, if_neg k]
    rw [if_neg (by rw [z_le (by omega) (by omega)]; omega), if_pos (by decide), if_pos (by decide), lt_eq, show (nI 4).toNatClampNeg = 4 from nI_clamp (by omega), rl_nu h (by omega), nI_add, ee]
    exact ⟨_, rfl, rl_set_nu h (by omega) _, LFr.set (by omega) (Or.inl (by omega)) (by omega)⟩
theorem l_tk_L {r b L : Nat} (x3 : Int32) (kx : Wd → Option (Int32 × Wd)) (hL : L ≤ 12) (hb : b + 13 ≤ 52) : ∀ (d n i : Nat) (w : Wd), i + d = L → d < n → 1 ≤ i → w r b = nI L → ∃ w', m_L_take_L16 r (nI b) x3 kx n (nI i) w = kx w' ∧ (∀ k, w' r k = if b + i ≤ k ∧ k < b + L then w r (k + 1) else w r k) ∧ ∀ a, a ≠ r → w' a = w a := by
  have ib52 : ib (nI b) 52 := by rw [z_ib (by omega)]; omega
  have cl : (nI b).toNatClampNeg = b := nI_clamp (by omega)
  intro d
  induction d with
  | zero =>
    intro n i w hi hn h1 hw
    obtain ⟨n, rfl⟩ : ∃ m, n = m + 1 := ⟨n - 1, by omega⟩
    refine ⟨w, by rw [m_L_take_L16, if_pos ib52, cl, hw, if_pos (by rw [z_le (by omega) (by omega)]; omega)], fun k => ?_, fun _ _ => rfl⟩
    rw [if_neg (by omega)]
  | succ d ih =>
    intro n i w hi hn h1 hw
    obtain ⟨n, rfl⟩ : ∃ m, n = m + 1 := ⟨n - 1, by omega⟩
    obtain ⟨w1, e1⟩ : ∃ w1, w1 = wset w r (b + i) (w r (b + i + 1)) := ⟨_, rfl⟩
    have f1 : ∀ k, k ≠ b + i → w1 r k = w r k := fun k hk => by rw [e1, wset_same, upd_n hk]
    have f2 : w1 r (b + i) = w r (b + i + 1) := by rw [e1, wset_same, upd_s]
    obtain ⟨w', a1, a2, a3⟩ := ih n (i + 1) w1 (by omega) (by omega) (by omega) (by rw [f1 _ (by omega)]; exact hw)
    refine ⟨w', ?_, fun k => ?_, fun a ha => by rw [a3 a ha, e1, wset_ne ha]⟩
    · rw [m_L_take_L16, if_pos ib52, cl, hw, if_neg (by rw [z_le (by omega) (by omega)]; omega), nI_add, nI_add, if_pos (by rw [z_ib (by omega)]; omega), if_pos (by rw [z_ib (by omega)]; omega), lt_eq, nI_clamp (by omega), nI_clamp (by omega), ← e1, nI_add]
      exact a1
    · rw [a2 k]
      by_cases c : k = b + i
      · subst c
        rw [if_neg (by omega), if_pos (by omega)]
        exact f2
      · by_cases c2 : b + (i + 1) ≤ k ∧ k < b + L
        · rw [if_pos c2, if_pos (by omega), f1 _ (by omega)]
        · rw [if_neg c2, if_neg (by omega), f1 _ c]
theorem l_take (h : RepL T w) (L : Len T) (N : Nat) {r d c : Nat} (hrd : r = 493 ∧ d = 8 ∨ r = 494 ∧ d = 16) (h1 : 1 ≤ c) (hc : c < 5) (hne : (tt_li T (d + c)).length ≠ 0) : ∃ w', m_L_take r (nI c) w = some (nI (lu ((tt_li T (d + c)).getD 0 0)), w') ∧ RepL (ts_li T (va_up (tt_li T) (d + c) ((tt_li T (d + c)).drop 1))) w' ∧ LFr N w w' := by
  have hrd3 : rdOk r d := by rcases hrd with e | e; exact Or.inl e; exact Or.inr (Or.inl e)
  have hr : 493 ≤ r ∧ r < 497 ∧ d + c < 24 ∧ 1 ≤ d + c := by rcases hrd with ⟨rfl, rfl⟩ | ⟨rfl, rfl⟩ <;> omega
  have hF := FUb
  have hg := rl_get h hrd3 h1 hc
  have hl := L (d + c) hr.2.2.2 hr.2.2.1
  obtain ⟨b, hb⟩ : ∃ b, b = 13 * (c - 1) := ⟨_, rfl⟩
  rw [← hb] at hg
  have ib52 : ib (nI b) 52 := by rw [z_ib (by omega)]; omega
  have cl : (nI b).toNatClampNeg = b := nI_clamp (by omega)
  obtain ⟨l, hll⟩ : ∃ l, l = tt_li T (d + c) := ⟨_, rfl⟩
  rw [← hll] at hg hl hne ⊢
  have h0 : w r (b + 1) = nI (lu (l.getD 0 0)) := by
    have := rlr_at hg (k := 0) (by omega)
    rw [Nat.add_zero] at this
    rw [this, List.getD_eq_getElem?_getD, List.getElem?_eq_getElem (by omega)]
    rfl
  obtain ⟨w4, a1, a2, a3⟩ := l_tk_L (r := r) (b := b) (L := l.length) (nI (lu (l.getD 0 0))) (fun w4 => if ib (nI b) 52 then if ib (nI b) 52 then lt (wset w4 r (nI b).toNatClampNeg ((w4 r (nI b).toNatClampNeg) - (nI 1))) fun w7 => some (nI (lu (l.getD 0 0)), w7) else none else none) hl (by omega) (l.length - 1) FU 1 w (by omega) (by omega) (by omega) hg.1
  have h4 : w4 r b = nI l.length := by rw [a2 b, if_neg (by omega)]; exact hg.1
  rw [if_pos ib52, if_pos ib52, lt_eq] at a1
  simp only [cl, h4] at a1
  rw [z_sub (by omega)] at a1
  refine ⟨wset w4 r b (nI (l.length - 1)), ?_, ?_, ?_⟩
  · rw [m_L_take, e13 h1, ← hb, lt_eq, nI_add, if_pos (by rw [z_ib (by omega)]; omega), lt_eq, show (nI (b + 1)).toNatClampNeg = b + 1 from nI_clamp (by omega), h0]
    simp only [cl]
    exact a1
  · refine rl_set_li h L hrd3 h1 hc (w' := wset w4 r b (nI (l.length - 1))) ?_ (fun j hj => ?_) (fun j j1 j2 j3 => ?_)
    · rw [← hb]
      refine ⟨by rw [wset_same, upd_s, List.length_drop], fun k x hk => ?_⟩
      rw [List.getElem?_drop] at hk
      have hlt := (List.getElem?_eq_some_iff.mp hk).1
      rw [wset_same, upd_n (by omega), a2, if_pos (by omega)]
      have := hg.2 _ _ hk
      rw [show b + 1 + (1 + k) = b + 1 + k + 1 by omega] at this
      exact this
    · rw [wset_same, upd_n (by omega), a2, if_neg (by omega)]
    · rw [wset_ne j3, a3 j j3]
  · intro k j hk
    rw [wset_ne (by omega), a3 k (by omega)]
theorem l_has_L (h : RepL T w) {p u : Nat} (hp : p < 5) {l : List Nat} (hl : l = tt_li T p) (hlen : l.length ≤ 48) (hlen2 : 1 ≤ p → l.length ≤ 12) (hv : ∀ x ∈ l, val12 x) (hu : val12 u) : ∀ (d n k : Nat), k + d = l.length → d < n → m_L_has_L26 495 496 (nI p) (nI (lu u)) (nI l.length) w n (nI (if u ∈ l.take k then 1 else 0)) (nI (k + 1)) = some (nI (if u ∈ l then 1 else 0)) := by
  have hlu := (val12_lu hu).1
  intro d
  induction d with
  | zero =>
    intro n k hk hn
    obtain ⟨n, rfl⟩ : ∃ m, n = m + 1 := ⟨n - 1, by omega⟩
    rw [m_L_has_L26, if_pos (by rw [z_lt (by omega) (by omega)]; omega), List.take_of_length_le (by omega)]
    split <;> rfl
  | succ d ih =>
    intro n k hk hn
    obtain ⟨n, rfl⟩ : ∃ m, n = m + 1 := ⟨n - 1, by omega⟩
    have hlt : k < l.length := by omega
    have ht : l.take (k + 1) = l.take k ++ [l[k]] := List.take_succ_eq_append_getElem hlt
    have hih := ih n (k + 1) (by omega) (by omega)
    have go : ∀ s : Nat, s = (if u ∈ l.take (k + 1) then 1 else 0) → m_L_has_j69 495 496 (nI p) (nI (lu u)) (nI l.length) (nI (k + 1)) (nI s) w (m_L_has_L26 495 496 (nI p) (nI (lu u)) (nI l.length) w n) = some (nI (if u ∈ l then 1 else 0)) := by
      intro s hs
      rw [m_L_has_j69, nI_add, hs]
      exact hih
    rw [m_L_has_L26, if_neg (by rw [z_lt (by omega) (by omega)]; omega)]
    by_cases c : u ∈ l.take k
    · rw [if_pos c, if_pos (by decide), m_L_has_j64]
      exact go 1 (by rw [if_pos (by rw [ht]; exact List.mem_append_left _ c)])
    · rw [if_neg c, if_neg (by decide)]
      have fin : m_L_has_j60 495 496 (nI p) (nI (lu u)) (nI l.length) (nI (k + 1)) (nI (lu l[k])) w (m_L_has_L26 495 496 (nI p) (nI (lu u)) (nI l.length) w n) = some (nI (if u ∈ l then 1 else 0)) := by
        have hvk := hv l[k] (List.getElem_mem hlt)
        have hlk := (val12_lu hvk).1
        rw [m_L_has_j60]
        by_cases e : l[k] = u
        · rw [if_neg (by rw [e]; exact fun q => q rfl), m_L_has_j64]
          exact go 1 (by rw [if_pos (by rw [ht, e]; exact List.mem_append_right _ (List.mem_singleton.mpr rfl))])
        · rw [if_pos (by rw [z_eq (by omega) (by omega)]; exact fun q => e (lu_inj hvk hu q))]
          exact go 0 (by rw [if_neg (by rw [ht, List.mem_append, List.mem_singleton]; exact fun q => q.elim c (fun z => e z.symm))])
      by_cases z : p = 0
      · have hr := rl_ro h
        rw [← z, ← hl] at hr
        have hk0 := rlr_at hr hlt
        subst z
        rw [if_neg (by decide), if_pos (by rw [z_ib (by omega)]; omega), nI_clamp (by omega), show k + 1 = 0 + 1 + k by omega, hk0, show 0 + 1 + k = k + 1 by omega]
        exact fin
      · have hr := rl_ke h (c := p) (by omega) hp
        rw [← hl] at hr
        have hk0 := rlr_at hr hlt
        have := hlen2 (by omega)
        rw [if_pos (by rw [z_eq0 (by omega)]; exact z), e13 (by omega), nI_add, if_pos (by rw [z_ib (by omega)]; omega), nI_clamp (by omega), show 13 * (p - 1) + (k + 1) = 13 * (p - 1) + 1 + k by omega, hk0]
        exact fin
theorem l_has (h : RepL T w) {p u : Nat} (hp : p < 5) (hlen : (tt_li T p).length ≤ 48) (hlen2 : 1 ≤ p → (tt_li T p).length ≤ 12) (hv : ∀ x ∈ tt_li T p, val12 x) (hu : val12 u) : m_L_has 495 496 (nI p) (nI (lu u)) w = some (nI (if u ∈ tt_li T p then 1 else 0)) := by
  have hF := FUb
  have k := l_has_L h hp rfl hlen hlen2 hv hu (tt_li T p).length FU 0 (by omega) (by omega)
  rw [show (if u ∈ (tt_li T p).take 0 then 1 else 0) = 0 by simp] at k
  rw [m_L_has]
  by_cases z : p = 0
  · have hr := rl_ro h
    rw [← z] at hr
    subst z
    rw [if_neg (by decide), if_pos (by decide), m_L_has_j21, show (nI 0).toNatClampNeg = 0 from nI_clamp (by omega), hr.1]
    exact k
  · have hr := rl_ke h (c := p) (by omega) hp
    rw [if_pos (by rw [z_eq0 (by omega)]; exact z), e13 (by omega), if_pos (by rw [z_ib (by omega)]; omega), nI_clamp (by omega), hr.1, m_L_has_j21]
    exact k
end LQ
