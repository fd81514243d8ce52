/-! ===== writing into the live state ===== -/
theorem hasC_c {T T' : TT} (h : tt_ca T = tt_ca T') : hasC T = hasC T' := by
  funext P o v
  simp only [hasC, h]
theorem cutv_c {T T' : TT} (h : tt_ca T = tt_ca T') : cutv T = cutv T' := by
  funext P o
  simp only [cutv, hasC_c h]
theorem pass_c {T T' : TT} (h : tt_ca T = tt_ca T') : pass T = pass T' := by
  funext P
  simp only [pass, passO, cutv_c h]
theorem itp_c {T T' : TT} (h : tt_ca T = tt_ca T') : ∀ n P, itp T n P = itp T' n P
  | 0, _ => rfl
  | n + 1, P => by
    simp only [itp]
    rw [pass_c h, itp_c h n]
theorem pfx_c {T T' : TT} (h : tt_ca T = tt_ca T') (h2 : tt_kn T = tt_kn T') (p : Nat) : pfx T p = pfx T' p := by
  have e : ini T p = ini T' p := by
    funext o
    simp only [ini, h2]
  simp only [pfx]
  rw [itp_c h, e]
/-- what stays outside the live state -/
def Fr (w w' : Wd) : Prop := ∀ k, 59 ≤ k → k ≠ 474 → w' k = w k
theorem Fr.rf {w : Wd} : Fr w w := fun _ _ _ => rfl
theorem Fr.tr {w w1 w2 : Wd} (h : Fr w w1) (h2 : Fr w1 w2) : Fr w w2 := fun k a b => (h2 k a b).trans (h k a b)
theorem Fr.of474 {w w' : Wd} (h : ∀ k, k ≠ 474 → w' k = w k) : Fr w w' := fun k _ b => h k b
theorem Fr.set {w : Wd} {k j : Nat} {x : Int32} (hk : k < 59) : Fr w (wset w k j x) := fun a h _ => wset_ne (by omega)
theorem rc_474 {T : TT} {w w' : Wd} (h : RepC 0 T w) (hf : ∀ k, k ≠ 474 → w' k = w k) : RepC 0 T w' := rc_frame (by omega) h (fun k hk => hf k (by omega))
theorem rc_mk {T : TT} {w : Wd} (h1 : ∀ j, j < 7 → w 50 j = nI (tt_nu T j)) (h2 : ∀ p, p < 8 → w 51 p = nI (tt_pa T p)) (h3 : ∀ o, o < 4 → w 52 o = nI (tt_ho T o)) (h4 : ∀ o, o < 4 → w 53 o = nI (tt_wr T o)) (h5 : ∀ j, j < 32 → w 54 j = nI (bits (tt_kn T j) 24)) (h6 : ∀ j, j < 384 → w 55 j = nI (tt_ca T j)) (h7 : ∀ i, i < 24 → RLn (w (2 * i) 1) (w (2 * i + 1)) (tt_li T i)) : RepC 0 T w := ⟨h1, h2, h3, h4, h5, h6, fun i hi => by rw [Nat.mul_zero, Nat.zero_add]; exact h7 i hi⟩
section SET
variable {T : TT} {w : Wd}
theorem rc_set_nu (h : RepC 0 T w) (j n : Nat) : RepC 0 (ts_nu T (va_up (tt_nu T) j n)) (wset w 50 j (nI n)) := by
  refine rc_mk (fun i hi => ?_) (fun i hi => ?_) (fun i hi => ?_) (fun i hi => ?_) (fun i hi => ?_) (fun i hi => ?_) (fun i hi => ?_)
  · rw [wset_same]
    show upd (w 50) j (nI n) i = nI (va_up (tt_nu T) j n i)
    by_cases e : i = j
    · subst e; rw [upd_s, up_s]
    · rw [upd_n e, up_n e]; exact rc_nu h hi
  · rw [wset_ne (by omega)]; exact rc_pa h hi
  · rw [wset_ne (by omega)]; exact rc_ho h hi
  · rw [wset_ne (by omega)]; exact rc_wr h hi
  · rw [wset_ne (by omega)]; exact rc_kn h hi
  · rw [wset_ne (by omega)]; exact rc_ca h hi
  · rw [wset_ne (by omega), wset_ne (by omega)]; exact rc_li h hi
theorem rc_set_pa (h : RepC 0 T w) (j n : Nat) : RepC 0 (ts_pa T (va_up (tt_pa T) j n)) (wset w 51 j (nI n)) := by
  refine rc_mk (fun i hi => ?_) (fun i hi => ?_) (fun i hi => ?_) (fun i hi => ?_) (fun i hi => ?_) (fun i hi => ?_) (fun i hi => ?_)
  · rw [wset_ne (by omega)]; exact rc_nu h hi
  · rw [wset_same]
    show upd (w 51) j (nI n) i = nI (va_up (tt_pa T) j n i)
    by_cases e : i = j
    · subst e; rw [upd_s, up_s]
    · rw [upd_n e, up_n e]; exact rc_pa h hi
  · rw [wset_ne (by omega)]; exact rc_ho h hi
  · rw [wset_ne (by omega)]; exact rc_wr h hi
  · rw [wset_ne (by omega)]; exact rc_kn h hi
  · rw [wset_ne (by omega)]; exact rc_ca h hi
  · rw [wset_ne (by omega), wset_ne (by omega)]; exact rc_li h hi
theorem rc_set_ho (h : RepC 0 T w) (j n : Nat) : RepC 0 (ts_ho T (va_up (tt_ho T) j n)) (wset w 52 j (nI n)) := by
  refine rc_mk (fun i hi => ?_) (fun i hi => ?_) (fun i hi => ?_) (fun i hi => ?_) (fun i hi => ?_) (fun i hi => ?_) (fun i hi => ?_)
  · rw [wset_ne (by omega)]; exact rc_nu h hi
  · rw [wset_ne (by omega)]; exact rc_pa h hi
  · rw [wset_same]
    show upd (w 52) j (nI n) i = nI (va_up (tt_ho T) j n i)
    by_cases e : i = j
    · subst e; rw [upd_s, up_s]
    · rw [upd_n e, up_n e]; exact rc_ho h hi
  · rw [wset_ne (by omega)]; exact rc_wr h hi
  · rw [wset_ne (by omega)]; exact rc_kn h hi
  · rw [wset_ne (by omega)]; exact rc_ca h hi
  · rw [wset_ne (by omega), wset_ne (by omega)]; exact rc_li h hi
theorem rc_set_wr (h : RepC 0 T w) (j n : Nat) : RepC 0 (ts_wr T (va_up (tt_wr T) j n)) (wset w 53 j (nI n)) := by
  refine rc_mk (fun i hi => ?_) (fun i hi => ?_) (fun i hi => ?_) (fun i hi => ?_) (fun i hi => ?_) (fun i hi => ?_) (fun i hi => ?_)
  · rw [wset_ne (by omega)]; exact rc_nu h hi
  · rw [wset_ne (by omega)]; exact rc_pa h hi
  · rw [wset_ne (by omega)]; exact rc_ho h hi
  · rw [wset_same]
    show upd (w 53) j (nI n) i = nI (va_up (tt_wr T) j n i)
    by_cases e : i = j
    · subst e; rw [upd_s, up_s]
    · rw [upd_n e, up_n e]; exact rc_wr h hi
  · rw [wset_ne (by omega)]; exact rc_kn h hi
  · rw [wset_ne (by omega)]; exact rc_ca h hi
  · rw [wset_ne (by omega), wset_ne (by omega)]; exact rc_li h hi
theorem rc_set_kn (h : RepC 0 T w) (j : Nat) (f : Nat → Bool) : RepC 0 (ts_kn T (va_up (tt_kn T) j f)) (wset w 54 j (nI (bits f 24))) := by
  refine rc_mk (fun i hi => ?_) (fun i hi => ?_) (fun i hi => ?_) (fun i hi => ?_) (fun i hi => ?_) (fun i hi => ?_) (fun i hi => ?_)
  · rw [wset_ne (by omega)]; exact rc_nu h hi
  · rw [wset_ne (by omega)]; exact rc_pa h hi
  · rw [wset_ne (by omega)]; exact rc_ho h hi
  · rw [wset_ne (by omega)]; exact rc_wr h hi
  · rw [wset_same]
    show upd (w 54) j (nI (bits f 24)) i = nI (bits (va_up (tt_kn T) j f i) 24)
    by_cases e : i = j
    · subst e; rw [upd_s, up_s]
    · rw [upd_n e, up_n e]; exact rc_kn h hi
  · rw [wset_ne (by omega)]; exact rc_ca h hi
  · rw [wset_ne (by omega), wset_ne (by omega)]; exact rc_li h hi
theorem rc_set_ca (h : RepC 0 T w) (j n : Nat) : RepC 0 (ts_ca T (va_up (tt_ca T) j n)) (wset w 55 j (nI n)) := by
  refine rc_mk (fun i hi => ?_) (fun i hi => ?_) (fun i hi => ?_) (fun i hi => ?_) (fun i hi => ?_) (fun i hi => ?_) (fun i hi => ?_)
  · rw [wset_ne (by omega)]; exact rc_nu h hi
  · rw [wset_ne (by omega)]; exact rc_pa h hi
  · rw [wset_ne (by omega)]; exact rc_ho h hi
  · rw [wset_ne (by omega)]; exact rc_wr h hi
  · rw [wset_ne (by omega)]; exact rc_kn h hi
  · rw [wset_same]
    show upd (w 55) j (nI n) i = nI (va_up (tt_ca T) j n i)
    by_cases e : i = j
    · subst e; rw [upd_s, up_s]
    · rw [upd_n e, up_n e]; exact rc_ca h hi
  · rw [wset_ne (by omega), wset_ne (by omega)]; exact rc_li h hi
theorem rc_set_li (h : RepC 0 T w) {i : Nat} (hi : i < 24) {l : List Nat} {w' : Wd} (hl : RLn (w' (2 * i) 1) (w' (2 * i + 1)) l) (hf : ∀ k, k ≠ 2 * i → k ≠ 2 * i + 1 → w' k = w k) : RepC 0 (ts_li T (va_up (tt_li T) i l)) w' := by
  refine rc_mk (fun j hj => ?_) (fun j hj => ?_) (fun j hj => ?_) (fun j hj => ?_) (fun j hj => ?_) (fun j hj => ?_) (fun j hj => ?_)
  · rw [hf _ (by omega) (by omega)]; exact rc_nu h hj
  · rw [hf _ (by omega) (by omega)]; exact rc_pa h hj
  · rw [hf _ (by omega) (by omega)]; exact rc_ho h hj
  · rw [hf _ (by omega) (by omega)]; exact rc_wr h hj
  · rw [hf _ (by omega) (by omega)]; exact rc_kn h hj
  · rw [hf _ (by omega) (by omega)]; exact rc_ca h hj
  · show RLn _ _ (va_up (tt_li T) i l j)
    by_cases e : j = i
    · subst e; rw [up_s]; exact hl
    · rw [up_n e, hf _ (by omega) (by omega), hf _ (by omega) (by omega)]; exact rc_li h hj
theorem Fr.li {i : Nat} {w' : Wd} (hi : i < 24) (hf : ∀ k, k ≠ 2 * i → k ≠ 2 * i + 1 → w' k = w k) : Fr w w' := fun k hk _ => hf k (by omega) (by omega)
end SET
theorem lr0 : lroom (2 * 0) = 96 := rfl
theorem lrc : ∀ p, p < 8 → 1 ≤ p → lroom (2 * p) = 13 := by decide
theorem lrq : ∀ i, i < 24 → 8 ≤ i → i ≠ 8 → i ≠ 16 → lroom (2 * i) = 12 := by decide
theorem lrb : ∀ i, i < 24 → lroom (2 * i) < 1000 := by decide
section OPS
variable {T : TT} {w : Wd}
theorem e_contentsOf (h : RepC 0 T w) (I : InvB T) {p : Nat} (hp : p < tt_nu T 0) : m_X5_contentsOf (nI p) w = some (2 * p) := by
  have := it_np I
  rw [m_X5_contentsOf, e_hasProxy h I hp, b_b, if_neg (by decide), if_neg (by rw [z_le (by omega) (by omega)]; omega), if_pos (by rw [z_ib (by omega)]; omega), nI_clamp (by omega)]
theorem e_queueUp (h : RepC 0 T w) (I : InvB T) {c : Nat} (h1 : 1 ≤ c) (hc : c < tt_nu T 0) : m_X5_queueOf (nI c) (nI 0) w = some (2 * (8 + c)) := by
  have := it_np I
  rw [m_X5_queueOf, e_hasChild h I h1 hc, b_b, if_neg (by decide), if_pos (by rw [z_lt (by omega) (by omega)]; omega), if_neg (by decide), if_pos (by rw [z_ib (by omega)]; omega), nI_clamp (by omega), show 16 + 2 * c = 2 * (8 + c) by omega]
theorem e_queueDown (h : RepC 0 T w) (I : InvB T) {c : Nat} (h1 : 1 ≤ c) (hc : c < tt_nu T 0) : m_X5_queueOf (nI c) (nI 1) w = some (2 * (16 + c)) := by
  have := it_np I
  rw [m_X5_queueOf, e_hasChild h I h1 hc, b_b, if_neg (by decide), if_pos (by rw [z_lt (by omega) (by omega)]; omega), if_pos (by decide), if_pos (by rw [z_ib (by omega)]; omega), nI_clamp (by omega), show 32 + 2 * c = 2 * (16 + c) by omega]
def addKn (T : TT) (p o v : Nat) : TT := ts_kn T (va_up (tt_kn T) (4 * p + o) (va_up (tt_kn T (4 * p + o)) v true))
theorem e_addKnown (h : RepC 0 T w) {p o v : Nat} (hp : p < 8) (ho : o < 4) (h1 : 1 ≤ v) (hv : v ≤ 24) : ∃ w', m_X5_addKnown (nI p) (nI o) (nI v) w = some w' ∧ RepC 0 (addKn T p o v) w' ∧ Fr w w' := by
  refine ⟨wset w 54 (4 * p + o) (nI (bits (va_up (tt_kn T (4 * p + o)) v true) 24)), ?_, rc_set_kn h _ _, Fr.set (by omega)⟩
  simp only [m_X5_addKnown, lt_eq]
  rw [pk_mul, nI_add, show p * 4 + o = 4 * p + o by omega, if_neg (nI_pos (by omega)), if_neg (by rw [z_le (by omega) (by omega)]; omega), if_pos (by rw [z_ib (by omega)]; omega)]
  simp only [nI_clamp (show 4 * p + o < 2 ^ 31 by omega)]
  rw [rc_kn h (by omega), e_with _ h1 hv, b_b, if_pos (by rw [z_ib (by omega)]; omega)]
theorem e_prefixFound {P : Nat → Nat} (hP : RepP w P) {o : Nat} (ho : o < 4) : m_X0_prefixFound (nI o) w = some (nI (P o)) := by
  rw [m_X0_prefixFound, if_neg (nI_pos (by omega)), if_neg (by rw [z_le (by omega) (by omega)]; omega), if_pos (by rw [z_ib (by omega)]; exact ho), nI_clamp (by omega), hP o ho]
theorem e_servedOf (h : RepC 0 T w) (I : InvB T) {p o : Nat} (hp : p < 8) (ho : o < 4) : ∃ w', m_X0_servedOf (nI p) (nI o) w = some (nI (pfx T p o), w') ∧ ∀ k, k ≠ 474 → w' k = w k := by
  obtain ⟨w', h1, h2, h3⟩ := e_findServed h I hp
  exact ⟨w', by rw [m_X0_servedOf, h1, b_b, e_prefixFound h2 ho, b_b], h3⟩
theorem e_servedCount (h : RepC 0 T w) (I : InvB T) {p : Nat} (hp : p < 8) : ∃ w', m_X0_servedCount (nI p) w = some (nI (pfx T p 0 + pfx T p 1 + pfx T p 2 + pfx T p 3), w') ∧ ∀ k, k ≠ 474 → w' k = w k := by
  obtain ⟨w', h1, h2, h3⟩ := e_findServed h I hp
  refine ⟨w', ?_, h3⟩
  obtain ⟨N, hN, -⟩ := FU5
  have st : ∀ n a o, o < 4 → m_X0_servedCount_L9 (n + 1) (nI a) (nI o) w' = m_X0_servedCount_L9 n (nI (a + pfx T p o)) (nI (o + 1)) w' := by
    intro n a o ho
    rw [m_X0_servedCount_L9, if_neg (by rw [z_le (by omega) (by omega)]; omega), if_pos (by rw [z_ib (by omega)]; exact ho), nI_clamp (by omega), h2 o ho, lt_eq, nI_add, nI_add]
  have e4 : ∀ a, m_X0_servedCount_L9 (N + 1) (nI a) (nI 4) w' = some (nI a, w') := fun a => by rw [m_X0_servedCount_L9, if_pos (by decide)]
  rw [m_X0_servedCount, h1, b_b, hN, st (N + 4) 0 0 (by omega), st (N + 3) _ 1 (by omega), st (N + 2) _ 2 (by omega), st (N + 1) _ 3 (by omega), e4, Nat.zero_add]
end OPS
