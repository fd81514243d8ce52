/-! ===== the reference: the calls that change nothing, and the text ===== -/
section RQ
variable {T : TT} {S : ST} {w : Wd}
theorem fr_q {w' : Wd} (h : FR S w) (hf : ∀ k, k ≠ 5 → k ≠ 7 → w' k = w k) : FR S w' := ⟨by rw [hf 1 (by omega) (by omega)]; exact h.1, h.2.1, hist_w h.2.2.1 (hf 2 (by omega) (by omega)) (by rw [hf 0 (by omega) (by omega)]), text_w h.2.2.2 (hf 4 (by omega) (by omega)) (by rw [hf 0 (by omega) (by omega)])⟩
theorem r_children (h : RepR T (w 1)) (I : InvB T) {p : Nat} (hp : p < 8) : m_X8_children (nI p) w = some (nI (chN T p)) := by
  have hnp := it_np I
  have key : ∀ (d n k : Nat), k + d + 1 = tt_nu T 0 → d < n → m_X8_children_L4 (nI p) w n (nI (fb_ct (fun i => decide (tt_pa T (i + 1) = p)) k)) (nI (k + 1)) = some (nI (chN T p)) := by
    intro d
    induction d with
    | zero =>
      intro n k hk hn
      obtain ⟨n, rfl⟩ : ∃ m, n = m + 1 := ⟨n - 1, by omega⟩
      rw [m_X8_children_L4, if_pos (ib0 (by omega)), if_pos (by rw [nI_clamp (by omega), rr_nu h (by omega), z_le (by omega) (by omega)]; omega), chN, show tt_nu T 0 - 1 = k by omega]
    | succ d ih =>
      intro n k hk hn
      obtain ⟨n, rfl⟩ : ∃ m, n = m + 1 := ⟨n - 1, by omega⟩
      have e := ih n (k + 1) (by omega) (by omega)
      have hpa := I.2.2.2.1 (k + 1) (by omega)
      rw [fb_ct_succ] at e
      rw [m_X8_children_L4, if_pos (ib0 (by omega)), if_neg (by rw [nI_clamp (by omega), rr_nu h (by omega), z_le (by omega) (by omega)]; omega), nI_add, if_pos (ib_n (by omega) (by omega))]
      by_cases c : tt_pa T (k + 1) = p
      · rw [if_pos (by simpa using c)] at e
        rw [if_neg (by rw [nI_clamp (by omega), rr_pa h (by omega) (by omega), c]; exact fun q => q rfl), m_X8_children_j33, lt_eq, nI_add, nI_add]; exact e
      · rw [if_neg (by simpa using c), Nat.add_zero] at e
        rw [if_pos (by rw [nI_clamp (by omega), rr_pa h (by omega) (by omega), z_eq (by omega) (by omega)]; exact c), m_X8_children_j33, lt_eq, nI_add, nI_add]; exact e
  have hF := FUb
  exact key (tt_nu T 0 - 1) FU 0 (by omega) (by omega)
theorem sum4_eq (g : Nat → Nat) : 0 + g 0 + g 1 + g 2 + g 3 = sum4 g := by unfold sum4; omega
theorem r_sumOf (h : RepR T (w 1)) (I : InvT T) {p k : Nat} (hp : p < 8) (hk : k < 4) : ∃ w', m_X8_sumOf (nI p) (nI k) w = some (nI (if k = 0 then sum4 (fun o => kc (tt_kn T (4 * p + o))) else if k = 1 then sum4 (pfx T p) else if k = 2 then sum4 (fun o => vsz (tt_kn T (4 * p + o))) else sum4 (fun o => ecn (tt_kn T (4 * p + o)))), w') ∧ ∀ i, i ≠ 5 → w' i = w i := by
  obtain ⟨w1, a1, a2, a3⟩ := r_serves h I.B hp
  have h1 := rr_5 h a3
  refine ⟨w1, ?_, a3⟩
  obtain ⟨N, hN, -⟩ := FU5
  have st : ∀ (g : Nat → Nat), (∀ n a o, o < 4 → m_X8_sumOf_L10 (nI p) (nI k) (n + 1) (nI a) (nI o) w1 = m_X8_sumOf_L10 (nI p) (nI k) n (nI (a + g o)) (nI (o + 1)) w1) → m_X8_sumOf_L10 (nI p) (nI k) (N + 5) (nI 0) (nI 0) w1 = some (nI (sum4 g), w1) := by
    intro g st
    rw [st (N + 4) 0 0 (by omega), st (N + 3) _ 1 (by omega), st (N + 2) _ 2 (by omega), st (N + 1) _ 3 (by omega), m_X8_sumOf_L10, if_pos (by decide), sum4_eq]
  rw [m_X8_sumOf, a1, b_b, hN]
  rcases (show k = 0 ∨ k = 1 ∨ k = 2 ∨ k = 3 by omega) with rfl | rfl | rfl | rfl
  · rw [if_pos rfl]
    refine st _ (fun n a o ho => ?_)
    rw [m_X8_sumOf_L10, if_neg (by rw [z_le (by omega) (by omega)]; omega), r_knownMany h1 hp ho, b_b, if_neg (by decide), m_X8_sumOf_j86, lt_eq, nI_add, nI_add]
  · rw [if_neg (by omega), if_pos rfl]
    refine st _ (fun n a o ho => ?_)
    rw [m_X8_sumOf_L10, if_neg (by rw [z_le (by omega) (by omega)]; omega), r_knownMany h1 hp ho, b_b, if_pos (by decide), if_neg (by decide), if_pos (ib_n (by omega) (by omega)), nI_clamp (by omega), a2 o ho, m_X8_sumOf_j86, lt_eq, nI_add, nI_add]
  · rw [if_neg (by omega), if_neg (by omega), if_pos rfl]
    refine st _ (fun n a o ho => ?_)
    have hkc := kc_le (tt_kn T (4 * p + o))
    rw [m_X8_sumOf_L10, if_neg (by rw [z_le (by omega) (by omega)]; omega), r_knownMany h1 hp ho, b_b, if_pos (by decide), if_pos (by decide), if_neg (by decide), r_rangesOf h1 hp ho (it_k25 I _ (by omega)), b_b]
    unfold vsz
    by_cases c : kc (tt_kn T (4 * p + o)) = 0
    · rw [if_pos (by rw [z_le0 (by omega)]; exact c), m_X8_sumOf_j72, m_X8_sumOf_j86, lt_eq, nI_add, nI_add, nI_add, if_pos c]
    · rw [if_neg (by rw [z_le0 (by omega)]; exact c), m_X8_sumOf_j72, m_X8_sumOf_j86, lt_eq, nI_add, nI_add, nI_add, if_neg c]
  · rw [if_neg (by omega), if_neg (by omega), if_neg (by omega)]
    refine st _ (fun n a o ho => ?_)
    rw [m_X8_sumOf_L10, if_neg (by rw [z_le (by omega) (by omega)]; omega), r_knownMany h1 hp ho, b_b, if_pos (by decide), if_pos (by decide), if_pos (by decide), r_boundOf h1 hp ho, b_b, z_sub (kc_bnd _), m_X8_sumOf_j86, lt_eq, nI_add, nI_add]
    rfl
theorem g_proxy (h : FR S w) (x y : Int32) : ∃ w', m_X8_proxy x y w = some (sq_proxy S.1 (dn x) (dn y), w') ∧ FR S w' := by
  have I := h.2.1.1
  have hnp := it_np I.B
  have h1 := h.1
  rw [m_X8_proxy, r_isProxy h1 I.B, b_b]
  unfold sq_proxy
  by_cases c : dn x < tt_nu S.1 0
  · have ex := dn_lt c (by omega)
    generalize dn x = p at *
    subst ex
    rw [if_pos c, if_pos (by decide), if_pos c]
    have hp8 : p < 8 := by omega
    rcases z_or y with hy | ⟨k, hk, rfl⟩
    · have ne : ∀ n, n < 2 ^ 31 → ¬ y = nI n := fun n hn e => nI_pos hn (e ▸ hy)
      rw [if_neg (ne 0 (by omega)), if_neg (ne 1 (by omega)), if_neg (ne 2 (by omega)), if_neg (ne 3 (by omega)), if_neg (ne 4 (by omega)), if_neg (ne 5 (by omega)), if_neg (ne 6 (by omega)), if_neg (ne 7 (by omega)), dn_neg hy]
      exact ⟨w, rfl, h⟩
    rw [dn_nI hk]
    have keep : ∀ {a : Int32}, ∃ w', some (a, w) = some (a, w') ∧ FR S w' := ⟨w, rfl, h⟩
    have su : ∀ j, j < 4 → ∃ w', (m_X8_sumOf (nI p) (nI j) w).bind (fun o5 => some (o5.1, o5.2)) = some (nI (if j = 0 then sum4 (fun o => kc (tt_kn S.1 (4 * p + o))) else if j = 1 then sum4 (pfx S.1 p) else if j = 2 then sum4 (fun o => vsz (tt_kn S.1 (4 * p + o))) else sum4 (fun o => ecn (tt_kn S.1 (4 * p + o)))), w') ∧ FR S w' := by
      intro j hj
      obtain ⟨w', a, b⟩ := r_sumOf h1 I hp8 hj
      exact ⟨w', by rw [a, b_b], fr_q h (fun k k5 _ => b k k5)⟩
    by_cases k0 : k = 0
    · rw [if_pos (by rw [k0]), if_pos k0, nI_add, if_pos (ib_n (by omega) (by omega)), nI_clamp (by omega)]
      by_cases g : p = 0
      · rw [if_pos g, g, show w 1 (7 + 0) = -9 from h1.2.1]; exact keep
      · rw [if_neg g, rr_pa h1 (by omega) hp8]; exact keep
    rw [if_neg (by rw [z_eq hk (by omega)]; exact k0), if_neg k0]
    by_cases k1 : k = 1
    · rw [if_pos (by rw [k1]), if_pos k1, r_depth h1 I hp8, b_b]; exact keep
    rw [if_neg (by rw [z_eq hk (by omega)]; exact k1), if_neg k1]
    by_cases k2 : k = 2
    · rw [if_pos (by rw [k2]), if_pos k2, r_children h1 I.B hp8, b_b]; exact keep
    rw [if_neg (by rw [z_eq hk (by omega)]; exact k2), if_neg k2]
    by_cases k3 : k = 3
    · rw [if_pos (by rw [k3]), if_pos k3]; exact su 0 (by omega)
    rw [if_neg (by rw [z_eq hk (by omega)]; exact k3), if_neg k3]
    by_cases k4 : k = 4
    · rw [if_pos (by rw [k4]), if_pos k4]; exact su 1 (by omega)
    rw [if_neg (by rw [z_eq hk (by omega)]; exact k4), if_neg k4]
    by_cases k5 : k = 5
    · rw [if_pos (by rw [k5]), if_pos k5, nI_add, if_pos (ib_n (by omega) (by omega)), nI_clamp (by omega), (rr_co h1 hp8).1]; exact keep
    rw [if_neg (by rw [z_eq hk (by omega)]; exact k5), if_neg k5]
    by_cases k6 : k = 6
    · rw [if_pos (by rw [k6]), if_pos k6]; exact su 2 (by omega)
    rw [if_neg (by rw [z_eq hk (by omega)]; exact k6), if_neg k6]
    by_cases k7 : k = 7
    · rw [if_pos (by rw [k7]), if_pos k7]; exact su 3 (by omega)
    rw [if_neg (by rw [z_eq hk (by omega)]; exact k7), if_neg k7]; exact keep
  · rw [if_neg c, if_neg (by decide), if_neg c]
    exact ⟨w, rfl, h⟩
theorem g_count (h : FR S w) (x : Int32) : m_X8_count x w = some (sq_count S.1 S.2.1.length (dn x)) := by
  have h1 := h.1
  rw [m_X8_count]
  unfold sq_count
  rcases z_or x with hy | ⟨k, hk, rfl⟩
  · have ne : ∀ n, n < 2 ^ 31 → ¬ x = nI n := fun n hn e => nI_pos hn (e ▸ hy)
    rw [if_neg (ne 0 (by omega)), if_neg (ne 1 (by omega)), if_neg (ne 2 (by omega)), if_neg (ne 3 (by omega)), if_neg (ne 4 (by omega)), if_neg (ne 5 (by omega)), if_neg (ne 6 (by omega)), if_neg (ne 7 (by omega)), if_neg (ne 8 (by omega)), dn_neg hy]
    rfl
  rw [dn_nI hk]
  by_cases k0 : k = 0
  · rw [if_pos (by rw [k0]), if_pos k0, if_pos (ib0 (by omega)), nI_clamp (by omega), rr_nu h1 (by omega)]
  rw [if_neg (by rw [z_eq hk (by omega)]; exact k0), if_neg k0]
  by_cases k1 : k = 1
  · rw [if_pos (by rw [k1]), if_pos k1, if_pos (ib_n (by omega) (by omega)), nI_clamp (by omega), rr_nu h1 (by omega)]
  rw [if_neg (by rw [z_eq hk (by omega)]; exact k1), if_neg k1]
  by_cases k2 : k = 2
  · rw [if_pos (by rw [k2]), if_pos k2, if_pos (ib_n (by omega) (by omega)), nI_clamp (by omega), rr_nu h1 (by omega)]
  rw [if_neg (by rw [z_eq hk (by omega)]; exact k2), if_neg k2]
  by_cases k3 : k = 3
  · rw [if_pos (by rw [k3]), if_pos k3, if_pos (ib_n (by omega) (by omega)), if_pos (ib_n (by omega) (by omega)), if_pos (ib_n (by omega) (by omega)), if_pos (ib_n (by omega) (by omega)), nI_clamp (by omega), nI_clamp (by omega), nI_clamp (by omega), nI_clamp (by omega), show w 1 19 = nI (tt_wr S.1 0) from rr_wr h1 (o := 0) (by omega), show w 1 20 = nI (tt_wr S.1 1) from rr_wr h1 (o := 1) (by omega), show w 1 21 = nI (tt_wr S.1 2) from rr_wr h1 (o := 2) (by omega), show w 1 22 = nI (tt_wr S.1 3) from rr_wr h1 (o := 3) (by omega), nI_add, nI_add, nI_add]
    rfl
  rw [if_neg (by rw [z_eq hk (by omega)]; exact k3), if_neg k3]
  by_cases k4 : k = 4
  · rw [if_pos (by rw [k4]), if_pos k4, if_pos (ib_n (by omega) (by omega)), nI_clamp (by omega), rr_nu h1 (by omega)]
  rw [if_neg (by rw [z_eq hk (by omega)]; exact k4), if_neg k4]
  by_cases k5 : k = 5
  · rw [if_pos (by rw [k5]), if_pos k5, if_pos (ib_n (by omega) (by omega)), nI_clamp (by omega), rr_nu h1 (by omega)]
  rw [if_neg (by rw [z_eq hk (by omega)]; exact k5), if_neg k5]
  by_cases k6 : k = 6
  · rw [if_pos (by rw [k6]), if_pos k6, if_pos (ib_n (by omega) (by omega)), nI_clamp (by omega), rr_nu h1 (by omega)]
  rw [if_neg (by rw [z_eq hk (by omega)]; exact k6), if_neg k6]
  by_cases k7 : k = 7
  · rw [if_pos (by rw [k7]), if_pos k7, if_pos (ib_n (by omega) (by omega)), nI_clamp (by omega), rr_nu h1 (by omega)]
  rw [if_neg (by rw [z_eq hk (by omega)]; exact k7), if_neg k7]
  by_cases k8 : k = 8
  · rw [if_pos (by rw [k8]), if_pos k8, h.2.2.1.1]
  rw [if_neg (by rw [z_eq hk (by omega)]; exact k8), if_neg k8]
theorem g_cause (h : FR S w) (x y z : Int32) : m_X8_cause x y z w = some (sq_cause S.1 (dn x) (dn y) (dn z)) := by
  have I := h.2.1.1
  rw [m_X8_cause, r_isUpdate h.1 I, b_b, r_isOrigin, b_b]
  unfold sq_cause
  by_cases d : wasW S.1 (dn x) (dn y)
  · rw [if_pos d, if_neg (by decide)]
    by_cases c : dn z < 4
    · have h24 := it_wr I d.1
      have ex := dn_lt d.1 (by omega)
      have ey := dn_lt (Nat.lt_succ_of_le d.2.2) (by omega)
      have ez := dn_lt c (by omega)
      generalize dn x = o at *
      generalize dn y = v at *
      generalize dn z = f at *
      subst ex; subst ey; subst ez
      rw [if_pos c, if_neg (by decide), if_pos ⟨c, d⟩, r_causeOf h.1 d.1 d.2.1 (by have := d.2.2; omega) c, b_b]
    · rw [if_neg c, if_pos (by decide), if_neg (fun q => c q.1)]
  · rw [if_neg d, if_pos (by decide), if_neg (fun q => d q.2)]
theorem rl_getD {sz : Int32} {row : Nat → Int32} {l : List Nat} (h : RLn sz row l) {k : Nat} (hk : k < l.length) : row k = nI (l.getD k 0) := by
  rw [rl_at h hk, List.getD_eq_getElem?_getD, List.getElem?_eq_getElem hk]; rfl
theorem g_queued (h : FR S w) (x y z : Int32) : m_X8_queued x y z w = some (sq_queued S.1 (dn x) (dn y) z) := by
  have I := h.2.1.1
  have hnp := it_np I.B
  rw [m_X8_queued, r_isQueue h.1 I.B, b_b]
  unfold sq_queued
  by_cases c : (1 ≤ dn x ∧ dn x < tt_nu S.1 0) ∧ dn y < 2
  · have ex := dn_lt c.1.2 (by omega)
    have ey := dn_lt c.2 (by omega)
    generalize dn x = p at *
    generalize dn y = d at *
    subst ex; subst ey
    obtain ⟨q1, q2, q3, q4⟩ := r_qsz h.1 (c := p) (d := d) (by omega) c.2
    have hl := rr_q h.1 (i := qi p d) (by unfold qi; split <;> omega) (by unfold qi; split <;> omega)
    rw [if_pos c, if_neg (by decide), if_pos c]
    rcases z_mm z with hz | hz | ⟨n, hn, rfl⟩
    · rw [if_neg (z_m1no hz), if_pos hz]
    · subst hz
      rw [if_pos (by decide), q1, b_b, if_neg (by decide), if_pos (ib_n (by omega) (by omega)), nI_clamp (by omega), q2, if_neg (by decide), if_pos rfl]
    · have hm := z_m1le hn
      rw [if_pos hm.1, q1, b_b, if_pos (by rw [z_0le hn]; trivial), if_pos (ib_n (by omega) (by omega)), if_neg hm.2.2, if_neg hm.2.1, dn_nI hn]
      by_cases g : n < (tt_li S.1 (qi p d)).length
      · have e : (w 1) (qb (qi p d) + 1 + n) = nI ((tt_li S.1 (qi p d)).getD n 0) := rl_getD hl g
        rw [if_neg (by rw [nI_clamp (by omega), q2, z_le (by omega) hn]; omega), if_pos g, nI_add, nI_add, if_pos (ib_n (by omega) (by omega)), nI_clamp (by omega), e]
      · rw [if_pos (by rw [nI_clamp (by omega), q2, z_le (by omega) hn]; omega), if_neg g]
  · rw [if_neg c, if_pos (by decide), if_neg c]
theorem g_bound (h : FR S w) (x y : Int32) : m_X8_bound x y w = some (sq_bound S.1 (dn x) (dn y)) := by
  have I := h.2.1.1
  have hnp := it_np I.B
  rw [m_X8_bound, r_isProxy h.1 I.B, b_b, r_isOrigin, b_b]
  unfold sq_bound
  by_cases c : dn x < tt_nu S.1 0
  · rw [if_pos c, if_neg (by decide)]
    by_cases d : dn y < 4
    · have ex := dn_lt c (by omega)
      have ey := dn_lt d (by omega)
      generalize dn x = p at *
      generalize dn y = o at *
      subst ex; subst ey
      rw [if_pos d, if_neg (by decide), if_pos ⟨c, d⟩, r_boundOf h.1 (by omega) d, b_b]
    · rw [if_neg d, if_pos (by decide), if_neg (fun q => d q.2)]
  · rw [if_neg c, if_pos (by decide), if_neg (fun q => c q.1)]
/-! the exceptions in their order -/
def nmem (f : Nat → Bool) (d v : Nat) : Nat := fb_ct (fun k => !f (v + k)) d
theorem nmem_s (f : Nat → Bool) (d v : Nat) : nmem f (d + 1) v = (if f v then 0 else 1) + nmem f d (v + 1) := by
  unfold nmem
  rw [Nat.add_comm d 1, fb_ct_split, show fb_ct (fun k => !f (v + k)) 1 = 0 + (if !f (v + 0) then 1 else 0) from rfl, Nat.zero_add, Nat.add_zero]
  have e : fb_ct (fun k => !f (v + (1 + k))) d = fb_ct (fun k => !f (v + 1 + k)) d := fb_ct_cong (fun k _ => by rw [Nat.add_assoc])
  rw [e]
  cases f v <;> rfl
theorem exA_in (f : Nat → Bool) : ∀ (d v i : Nat), 1 ≤ v → i < nmem f d v → exA f d v i ≠ 0 ∧ ∀ e, d ≤ e → exA f e v i = exA f d v i := by
  intro d
  induction d with
  | zero => intro v i _ h; exact absurd h (Nat.not_lt_zero _)
  | succ d ih =>
    intro v i hv h
    rw [nmem_s] at h
    have nx : ∀ e, d + 1 ≤ e → ∃ e', e = e' + 1 ∧ d ≤ e' := fun e he => ⟨e - 1, by omega, by omega⟩
    by_cases c : f v = true
    · rw [if_pos c, Nat.zero_add] at h
      obtain ⟨a, b⟩ := ih (v + 1) i (by omega) h
      rw [exA, if_pos c]
      refine ⟨a, fun e he => ?_⟩
      obtain ⟨e', rfl, he'⟩ := nx e he
      rw [exA, if_pos c]; exact b e' he'
    · rw [if_neg c] at h
      by_cases g : i = 0
      · rw [exA, if_neg c, if_pos g]
        refine ⟨by omega, fun e he => ?_⟩
        obtain ⟨e', rfl, he'⟩ := nx e he
        rw [exA, if_neg c, if_pos g]
      · obtain ⟨a, b⟩ := ih (v + 1) (i - 1) (by omega) (by omega)
        rw [exA, if_neg c, if_neg g]
        refine ⟨a, fun e he => ?_⟩
        obtain ⟨e', rfl, he'⟩ := nx e he
        rw [exA, if_neg c, if_neg g]; exact b e' he'
theorem exA_out (f : Nat → Bool) : ∀ (d v i : Nat), nmem f d v ≤ i → exA f d v i = 0 := by
  intro d
  induction d with
  | zero => intro v i _; rfl
  | succ d ih =>
    intro v i h
    rw [nmem_s] at h
    rw [exA]
    by_cases c : f v = true
    · rw [if_pos c, Nat.zero_add] at h
      rw [if_pos c]; exact ih _ _ h
    · rw [if_neg c] at h
      rw [if_neg c, if_neg (by omega)]; exact ih _ _ (by omega)
theorem exA_le (f : Nat → Bool) : ∀ (d v i : Nat), exA f d v i ≤ v + d := by
  intro d
  induction d with
  | zero => intro v i; exact Nat.zero_le _
  | succ d ih =>
    intro v i
    rw [exA]
    have h1 := ih (v + 1) i
    have h2 := ih (v + 1) (i - 1)
    split
    · omega
    · split <;> omega
theorem ecn_nm (f : Nat → Bool) : nmem f (bnd f 24 - 1) 1 = ecn f := by
  have h1 := fb_ct_split (fun i => f (i + 1)) (bnd f 24) (24 - bnd f 24)
  have hb := bnd_le f 24
  have h2 : fb_ct (fun k => f (bnd f 24 + k + 1)) (24 - bnd f 24) = 0 := fb_ct_zero.mpr (fun k hk => bnd_out f 24 _ (by omega) (by omega))
  rw [show bnd f 24 + (24 - bnd f 24) = 24 by omega, h2, Nat.add_zero] at h1
  have h3 := fb_ct_not (fun i => f (i + 1)) (bnd f 24)
  have hin := bnd_in f 24
  unfold ecn kc nmem
  rw [h1]
  have e : ∀ n, fb_ct (fun k => !f (1 + k)) n = fb_ct (fun k => !f (k + 1)) n := fun n => fb_ct_cong (fun k _ => by rw [Nat.add_comm])
  rw [e]
  generalize bnd f 24 = b at *
  rcases Nat.eq_zero_or_pos b with z | z
  · subst z; rfl
  · obtain ⟨b, rfl⟩ : ∃ c, b = c + 1 := ⟨b - 1, by omega⟩
    have ht := hin (by omega)
    rw [fb_ct_succ (fun k => !f (k + 1)), if_neg (by rw [ht]; simp), Nat.add_zero] at h3
    rw [Nat.add_sub_cancel]
    omega
theorem r_exc_L (h : RepR T (w 1)) {p o : Nat} (hp : p < 8) (ho : o < 4) {B : Nat} (hB : B ≤ 24) : ∀ (d n v i : Nat), v + d = B → 1 ≤ v → d < n → i < 2 ^ 31 → m_X8_exception_L47 (nI p) (nI o) (nI B) w n (nI i) (nI v) = some (if exA (tt_kn T (4 * p + o)) d v i = 0 then -9 else nI (exA (tt_kn T (4 * p + o)) d v i)) := by
  intro d
  induction d with
  | zero =>
    intro n v i hv h1 hn hi
    obtain ⟨n, rfl⟩ : ∃ m, n = m + 1 := ⟨n - 1, by omega⟩
    rw [m_X8_exception_L47, if_pos (by rw [z_le (by omega) (by omega)]; omega)]; rfl
  | succ d ih =>
    intro n v i hv h1 hn hi
    obtain ⟨n, rfl⟩ : ∃ m, n = m + 1 := ⟨n - 1, by omega⟩
    rw [m_X8_exception_L47, if_neg (by rw [z_le (by omega) (by omega)]; omega), r_knows h hp ho h1 (by omega), b_b, exA]
    by_cases c : tt_kn T (4 * p + o) v = true
    · rw [if_pos c, if_pos (by decide), if_pos c, m_X8_exception_j76, nI_add]
      exact ih n (v + 1) i (by omega) (by omega) (by omega) hi
    · rw [if_neg c, if_neg (by decide), if_neg c]
      by_cases g : i = 0
      · rw [if_neg (by rw [g]; exact fun q => q rfl), if_pos g, if_neg (by omega)]
      · rw [if_pos (by rw [z_eq0 hi]; exact g), if_neg g, m_X8_exception_j76, nI_add, z_m1 (by omega)]
        exact ih n (v + 1) (i - 1) (by omega) (by omega) (by omega) (by omega)
theorem g_exc (h : FR S w) (x y z : Int32) : m_X8_exception x y z w = some (sq_exc S.1 (dn x) (dn y) z) := by
  have I := h.2.1.1
  have hnp := it_np I.B
  rw [m_X8_exception, r_isProxy h.1 I.B, b_b, r_isOrigin, b_b]
  unfold sq_exc
  by_cases c : dn x < tt_nu S.1 0
  · rw [if_pos c, if_neg (by decide)]
    by_cases d : dn y < 4
    · have ex := dn_lt c (by omega)
      have ey := dn_lt d (by omega)
      generalize dn x = p at *
      generalize dn y = o at *
      subst ex; subst ey
      rw [if_pos d, if_neg (by decide), if_pos (show p < tt_nu S.1 0 ∧ o < 4 from ⟨c, d⟩)]
      rcases z_mm z with hz | hz | ⟨n, hn, rfl⟩
      · rw [if_neg (z_m1no hz), if_pos hz]
      · subst hz
        rw [if_pos (by decide), if_neg (by decide), r_rangesOf h.1 (by omega) d (it_k25 I _ (by omega)), b_b, if_neg (by decide), if_pos rfl]
      · have hm := z_m1le hn
        have hb := bnd_le (tt_kn S.1 (4 * p + o)) 24
        have hF := FUb
        rw [if_pos hm.1, if_pos (by rw [z_0le hn]; trivial), r_boundOf h.1 (by omega) d, b_b, if_neg hm.2.2, if_neg hm.2.1, dn_nI hn]
        have en := ecn_nm (tt_kn S.1 (4 * p + o))
        rcases Nat.eq_zero_or_pos (bnd (tt_kn S.1 (4 * p + o)) 24) with z | z
        · have e0 : ecn (tt_kn S.1 (4 * p + o)) = 0 := by unfold ecn; omega
          obtain ⟨N, hN, -⟩ := FU5
          rw [z, hN, m_X8_exception_L47, if_pos (by decide), e0, if_neg (Nat.not_lt_zero _)]
        · rw [r_exc_L h.1 (by omega) d hb (bnd (tt_kn S.1 (4 * p + o)) 24 - 1) FU 1 n (by omega) (by omega) (by omega) hn]
          by_cases g : n < ecn (tt_kn S.1 (4 * p + o))
          · obtain ⟨q1, q2⟩ := exA_in (tt_kn S.1 (4 * p + o)) (bnd (tt_kn S.1 (4 * p + o)) 24 - 1) 1 n (by omega) (by rw [en]; exact g)
            rw [if_neg q1, if_pos g, q2 24 (by omega)]
          · rw [if_pos (exA_out _ _ _ _ (by rw [en]; omega)), if_neg g]
    · rw [if_neg d, if_pos (by decide), if_neg (fun q => d q.2)]
  · rw [if_neg c, if_pos (by decide), if_neg (fun q => c q.1)]
theorem g_served (h : FR S w) (x y : Int32) : ∃ w', m_X8_served x y w = some (sq_served S.1 (dn x) (dn y), w') ∧ FR S w' := by
  have I := h.2.1.1
  have hnp := it_np I.B
  rw [m_X8_served, r_isProxy h.1 I.B, b_b, r_isOrigin, b_b]
  unfold sq_served
  by_cases c : dn x < tt_nu S.1 0
  · rw [if_pos c, if_neg (by decide)]
    by_cases d : dn y < 4
    · have ex := dn_lt c (by omega)
      have ey := dn_lt d (by omega)
      generalize dn x = p at *
      generalize dn y = o at *
      subst ex; subst ey
      obtain ⟨w', a1, a2, a3⟩ := r_serves h.1 I.B (p := p) (by omega)
      rw [if_pos d, if_pos (by decide), if_pos ⟨c, d⟩, a1, b_b, if_pos (ib_n (by omega) (by omega)), nI_clamp (by omega), a2 o d]
      exact ⟨w', rfl, fr_q h (fun k k5 _ => a3 k k5)⟩
    · rw [if_neg d, if_neg (by decide), if_neg (fun q => d q.2)]
      exact ⟨w, rfl, h⟩
  · rw [if_neg c, if_pos (by decide), if_neg (fun q => c q.1)]
    exact ⟨w, rfl, h⟩
theorem li_lt {T : TT} (I : InvT T) {p : Nat} (hp : p < 8) : ∀ y ∈ tt_li T p, y < 2 ^ 31 := fun y hy => by have := valU_lt (it_val I (by omega) y hy); omega
theorem g_status (h : FR S w) (x y z : Int32) : ∃ w', m_X8_status x y z w = some (sq_status S.1 (dn x) (dn y) (dn z), w') ∧ FR S w' := by
  have I := h.2.1.1
  have hnp := it_np I.B
  rw [m_X8_status, r_isProxy h.1 I.B, b_b, r_isUpdate h.1 I, b_b]
  unfold sq_status
  by_cases c : dn x < tt_nu S.1 0
  · rw [if_pos c, if_neg (by decide)]
    by_cases d : wasW S.1 (dn y) (dn z)
    · have h24 := it_wr I d.1
      have ex := dn_lt c (by omega)
      have ey := dn_lt d.1 (by omega)
      have ez := dn_lt (Nat.lt_succ_of_le d.2.2) (by omega)
      generalize dn x = p at *
      generalize dn y = o at *
      generalize dn z = v at *
      subst ex; subst ey; subst ez
      have hv : v ≤ 24 := by have := d.2.2; omega
      have ho := d.1
      obtain ⟨w', a1, a2, a3⟩ := r_serves h.1 I.B (p := p) (by omega)
      have h1 := rr_5 h.1 a3
      have hpf := pfx_le S.1 p o
      have hq := fr_q h (w' := w') (fun k k5 _ => a3 k k5)
      rw [if_pos d, if_pos (by decide), if_pos (show p < tt_nu S.1 0 ∧ wasW S.1 o v from ⟨c, d⟩), a1, b_b, if_pos (ib_n (by omega) (by omega))]
      by_cases g : v ≤ pfx S.1 p o
      · have k : tt_kn S.1 (4 * p + o) v = true := pre_in (f := tt_kn S.1 (4 * p + o)) d.2.1 (Nat.le_trans g (pfx_ini S.1 p o))
        obtain ⟨kp, b1, b2⟩ := r_keptPlace h1 (p := p) (u := 100 * o + v) (by omega) (by omega) (li_lt I (by omega))
        rw [if_pos (by rw [nI_clamp (by omega), a2 o ho, z_le (by omega) (by omega)]; exact g), pk_mul, nI_add, b1, b_b, if_pos k, if_pos g]
        by_cases q : 100 * o + v ∈ tt_li S.1 p
        · have n0 : ¬ kp < 0 := fun z => (b2.mp z) q
          rw [if_pos (Int32.not_lt.mp n0), if_pos q]; exact ⟨w', rfl, hq⟩
        · rw [if_neg (fa_of_lt (b2.mpr q)).2.1, if_neg q]; exact ⟨w', rfl, hq⟩
      · rw [if_neg (by rw [nI_clamp (by omega), a2 o ho, z_le (by omega) (by omega)]; exact g), r_knows h1 (by omega) ho d.2.1 hv, b_b]
        by_cases k : tt_kn S.1 (4 * p + o) v = true
        · rw [if_pos k, if_neg (by decide), if_pos k, if_neg g]; exact ⟨w', rfl, hq⟩
        · rw [if_neg k, if_pos (by decide), if_neg k]; exact ⟨w', rfl, hq⟩
    · rw [if_neg d, if_neg (by decide), if_neg (fun q => d q.2)]; exact ⟨w, rfl, h⟩
  · rw [if_neg c, if_pos (by decide), if_neg (fun q => c q.1)]; exact ⟨w, rfl, h⟩
theorem g_kept (h : FR S w) (x y : Int32) : m_X8_kept x y w = some (sq_kept S.1 (dn x) y) := by
  have I := h.2.1.1
  have hnp := it_np I.B
  rw [m_X8_kept, r_isProxy h.1 I.B, b_b]
  unfold sq_kept
  by_cases c : dn x < tt_nu S.1 0
  · have ex := dn_lt c (by omega)
    generalize dn x = p at *
    subst ex
    have hl := rr_co h.1 (p := p) (by omega)
    have h96 := rr_col h.1 (p := p) (by omega)
    rw [if_pos c, if_neg (by decide), if_pos c]
    rcases z_or y with hy | ⟨n, hn, rfl⟩
    · rw [if_neg (fa_of_lt hy).2.1, if_pos hy]
    · rw [if_pos (by rw [z_0le hn]; trivial), if_neg (nI_pos hn), nI_add, if_pos (ib_n (by omega) (by omega)), dn_nI hn]
      by_cases g : n < (tt_li S.1 p).length
      · have e : w 1 (447 + 96 * p + n) = nI ((tt_li S.1 p).getD n 0) := rl_getD hl g
        rw [if_neg (by rw [nI_clamp (by omega), hl.1, z_le (by omega) hn]; omega), if_pos g, ix3, if_pos (ib_n (by omega) (by omega)), nI_clamp (by omega), e]
      · rw [if_pos (by rw [nI_clamp (by omega), hl.1, z_le (by omega) hn]; omega), if_neg g]
  · rw [if_neg c, if_pos (by decide), if_neg c]
theorem bits2_sub (f g : Nat → Bool) : nI (2 * bits f 24) &&& (nI (2 * bits g 24) ^^^ (-1)) = nI (2 * bits (fun v => f v && !g v) 24) := by
  apply b_ext
  intro i hi
  rw [b_and, b_xor, b_m1 i hi, bt_nI hi, bt_nI hi, bt_nI hi]
  cases i with
  | zero =>
    have z : ∀ n : Nat, (2 * n).testBit 0 = false := fun n => by
      rw [Nat.testBit_zero]; simp
    rw [z, z, z]; rfl
  | succ i =>
    rw [tb_two, tb_two, tb_two, bits_tb, bits_tb, bits_tb]
    by_cases c : i < 24 <;> simp [c]
theorem ix4 (p o : Nat) : ((nI 407) + ((nI 4) * nI p)) + nI o = nI (407 + (4 * p + o)) := by
  rw [pk_mul, nI_add, nI_add]; congr 1; omega
theorem g_covers (h : FR S w) (x y : Int32) : m_X8_covers x y w = some (sq_covers S.1 (dn x) (dn y)) := by
  have I := h.2.1.1
  have hnp := it_np I.B
  rw [m_X8_covers, r_isProxy h.1 I.B, b_b, r_isProxy h.1 I.B, b_b]
  unfold sq_covers
  by_cases c : dn x < tt_nu S.1 0
  · rw [if_pos c, if_neg (by decide)]
    by_cases d : dn y < tt_nu S.1 0
    · have ex := dn_lt c (by omega)
      have ey := dn_lt d (by omega)
      generalize dn x = p at *
      generalize dn y = q at *
      subst ex; subst ey
      obtain ⟨N, hN, -⟩ := FU5
      have st : ∀ (n b o : Nat), b ≤ 1 → o < 4 → m_X8_covers_L23 (nI p) (nI q) w (fun x3_3 => if x3_3 = 0 then some (nI 0) else some (nI 1)) (n + 1) (nI b) (nI o) = m_X8_covers_L23 (nI p) (nI q) w (fun x3_3 => if x3_3 = 0 then some (nI 0) else some (nI 1)) n (nI (if b = 1 ∧ covO S.1 p q o = true then 1 else 0)) (nI (o + 1)) := by
        intro n b o hb ho
        rw [m_X8_covers_L23, if_neg (by rw [z_le (by omega) (by omega)]; omega)]
        by_cases k : b = 0
        · rw [if_pos (by rw [k]; rfl), m_X8_covers_j73, m_X8_covers_j74, nI_add, if_neg (by omega)]
        · have hb2 := bits2 (fun v => tt_kn S.1 (4 * q + o) v && !tt_kn S.1 (4 * p + o) v)
          rw [if_neg (by rw [z_eq0 (by omega)]; exact k), ix4, ix4, if_pos (ib_n (by omega) (by omega)), if_pos (ib_n (by omega) (by omega))]
          by_cases g : bits (fun v => tt_kn S.1 (4 * q + o) v && !tt_kn S.1 (4 * p + o) v) 24 = 0
          · rw [if_neg (by rw [nI_clamp (by omega), nI_clamp (by omega), rr_kn h.1 (by omega), rr_kn h.1 (by omega), bits2_sub, z_eq0 (by omega)]; omega), m_X8_covers_j74, nI_add, if_pos ⟨by omega, by unfold covO; simpa using g⟩]
          · rw [if_pos (by rw [nI_clamp (by omega), nI_clamp (by omega), rr_kn h.1 (by omega), rr_kn h.1 (by omega), bits2_sub, z_eq0 (by omega)]; omega), m_X8_covers_j73, m_X8_covers_j74, nI_add, if_neg (fun z => g (by have := z.2; unfold covO at this; simpa using this))]
      have lb : ∀ {c : Prop} [Decidable c], (if c then 1 else 0) ≤ 1 := by intro c _; split <;> omega
      have e4 : ∀ b, m_X8_covers_L23 (nI p) (nI q) w (fun x3_3 => if x3_3 = 0 then some (nI 0) else some (nI 1)) (N + 1) (nI b) (nI 4) = if nI b = 0 then some (nI 0) else some (nI 1) := fun b => by rw [m_X8_covers_L23, if_pos (by decide)]
      rw [if_pos d, if_pos (by decide), if_pos ⟨c, d⟩, hN, st (N + 4) 1 0 (by omega) (by omega), st (N + 3) _ 1 lb (by omega), st (N + 2) _ 2 lb (by omega), st (N + 1) _ 3 lb (by omega), e4]
      unfold covS
      cases covO S.1 p q 0 <;> cases covO S.1 p q 1 <;> cases covO S.1 p q 2 <;> cases covO S.1 p q 3 <;> rfl
    · rw [if_neg d, if_neg (by decide), if_neg (fun q => d q.2)]
  · rw [if_neg c, if_pos (by decide), if_neg (fun q => c q.1)]
end RQ
