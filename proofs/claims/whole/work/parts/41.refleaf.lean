/-! ===== the reference: leaves ===== -/
section RLEAF
variable {T : TT} {w : Wd}
theorem and11 : nI 1 &&& (1 : Int32) = nI 1 := by decide
theorem and01 : nI 0 &&& (1 : Int32) = nI 0 := by decide
theorem andb {c : Prop} [Decidable c] : nI (if c then 1 else 0) &&& (1 : Int32) = nI (if c then 1 else 0) := by
  by_cases h : c
  · rw [if_pos h]; exact and11
  · rw [if_neg h]; exact and01
theorem r_in {a b : Nat} (ha : a < 2 ^ 31) (hb : b < 2 ^ 31) (x : Int32) : m_X8_in x (nI a) (nI b) = some (nI (if a ≤ dn x ∧ dn x ≤ b then 1 else 0)) := by
  rw [m_X8_in]
  rcases z_or x with hx | ⟨n, hn, rfl⟩
  · have hlt : x < nI a := by
      have := nI_pos ha
      rw [fa_lt] at hx this ⊢
      omega
    rw [if_pos hlt, dn_neg hx, if_neg (by omega)]
  · rw [dn_nI hn]
    by_cases c : a ≤ n
    · rw [if_neg (by rw [z_lt hn ha]; omega)]
      by_cases d : n ≤ b
      · rw [if_neg (by rw [z_lt hb hn]; omega), if_pos ⟨c, d⟩]
      · rw [if_pos (by rw [z_lt hb hn]; omega), if_neg (fun q => d q.2)]
    · rw [if_pos (by rw [z_lt hn ha]; omega), if_neg (fun q => c q.1)]
theorem ib0 {n : Nat} (h : 0 < n) : ib (nI 0) n := by rw [z_ib (by omega)]; exact h
theorem r_isProxy (h : RepR T (w 1)) (I : InvB T) (x : Int32) : m_X8_isProxy x w = some (nI (if dn x < tt_nu T 0 then 1 else 0)) := by
  have hnp := it_np I
  rw [m_X8_isProxy, if_pos (ib0 (by omega)), nI_clamp (by omega), rr_nu h (by omega), z_sub (by omega), r_in (by omega) (by omega), b_b]
  by_cases c : dn x < tt_nu T 0
  · rw [if_pos ⟨by omega, by omega⟩, if_pos c, and11]
  · rw [if_neg (by omega), if_neg c, and01]
theorem r_isChild (h : RepR T (w 1)) (I : InvB T) (x : Int32) : m_X8_isChild x w = some (nI (if 1 ≤ dn x ∧ dn x < tt_nu T 0 then 1 else 0)) := by
  have hnp := it_np I
  rw [m_X8_isChild, if_pos (ib0 (by omega)), nI_clamp (by omega), rr_nu h (by omega), z_sub (by omega), r_in (by omega) (by omega), b_b]
  by_cases c : 1 ≤ dn x ∧ dn x < tt_nu T 0
  · rw [if_pos ⟨by omega, by omega⟩, if_pos c, and11]
  · rw [if_neg (by omega), if_neg c, and01]
theorem r_isOrigin (x : Int32) : m_X8_isOrigin x = some (nI (if dn x < 4 then 1 else 0)) := by
  rw [m_X8_isOrigin, r_in (by omega) (by omega), b_b]
  by_cases c : dn x < 4
  · rw [if_pos ⟨by omega, by omega⟩, if_pos c, and11]
  · rw [if_neg (by omega), if_neg c, and01]
theorem r_isUpdate (h : RepR T (w 1)) (I : InvT T) (x y : Int32) : m_X8_isUpdate x y w = some (nI (if wasW T (dn x) (dn y) then 1 else 0)) := by
  rw [m_X8_isUpdate, r_isOrigin, b_b]
  by_cases c : dn x < 4
  · have ex := dn_lt c (by omega)
    generalize dn x = o at *
    subst ex
    have h24 := it_wr I c
    rw [if_pos c, if_neg (by decide), nI_add, if_pos (by rw [z_ib (by omega)]; omega), nI_clamp (by omega), rr_wr h c, r_in (by omega) (by omega), b_b]
    by_cases d : 1 ≤ dn y ∧ dn y ≤ tt_wr T o
    · rw [if_pos d, if_neg (by decide), if_pos ⟨c, d⟩]
    · rw [if_neg d, if_pos (by decide), if_neg (fun q => d q.2)]
  · rw [if_neg c, if_pos (by decide), if_neg (fun q => c q.1)]
theorem r_causeOf (h : RepR T (w 1)) {o v f : Nat} (ho : o < 4) (h1 : 1 ≤ v) (hv : v ≤ 24) (hf : f < 4) : m_X8_causeOf (nI o) (nI v) (nI f) w = some (nI (tt_ca T (96 * o + 4 * (v - 1) + f))) := by
  have e : (((nI 23) + ((nI 96) * nI o)) + ((nI 4) * (nI v - (nI 1)))) + nI f = nI (23 + (96 * o + 4 * (v - 1) + f)) := by
    rw [z_sub h1, pk_mul, pk_mul, nI_add, nI_add, nI_add]
    congr 1
    omega
  rw [m_X8_causeOf, e, if_pos (by rw [z_ib (by omega)]; omega), nI_clamp (by omega), rr_ca h (by omega)]
theorem tb_two {n k : Nat} : (2 * n).testBit (k + 1) = n.testBit k := by
  rw [Nat.testBit_succ, Nat.mul_div_cancel_left _ (by omega)]
theorem bits2 (f : Nat → Bool) : 2 * bits f 24 < 33554432 := by have := bits_24 f; omega
theorem z_bit2 (f : Nat → Bool) {v : Nat} (h1 : 1 ≤ v) (hv : v ≤ 24) : (nI (2 * bits f 24) >>> (nI v &&& 31)) &&& nI 1 = nI (if f v then 1 else 0) := by
  have hb := bits2 f
  obtain ⟨k, rfl⟩ : ∃ k, v = k + 1 := ⟨v - 1, by omega⟩
  rw [z_bit (by omega) (by omega), tb_two, bits_tb]
  rw [show decide (k < 24) = true by simp; omega, Bool.true_and]
theorem r_knows (h : RepR T (w 1)) {p o v : Nat} (hp : p < 8) (ho : o < 4) (h1 : 1 ≤ v) (hv : v ≤ 24) : m_X8_knows (nI p) (nI o) (nI v) w = some (nI (if tt_kn T (4 * p + o) v then 1 else 0)) := by
  have e : ((nI 407) + ((nI 4) * nI p)) + nI o = nI (407 + (4 * p + o)) := by
    rw [pk_mul, nI_add, nI_add]
    congr 1
    omega
  rw [m_X8_knows, e, if_pos (by rw [z_ib (by omega)]; omega), nI_clamp (by omega), rr_kn h (by omega), z_bit2 _ h1 hv]
  by_cases c : tt_kn T (4 * p + o) v = true
  · rw [if_pos c, if_neg (fun q => q rfl)]
  · rw [if_neg c, if_pos (by decide)]
theorem r_boundOf (h : RepR T (w 1)) {p o : Nat} (hp : p < 8) (ho : o < 4) : m_X8_boundOf (nI p) (nI o) w = some (nI (bnd (tt_kn T (4 * p + o)) 24)) := by
  have key : ∀ (d n k : Nat), k + d = 24 → d < n → m_X8_boundOf_L5 (nI p) (nI o) w n (nI (bnd (tt_kn T (4 * p + o)) k)) (nI (k + 1)) = some (nI (bnd (tt_kn T (4 * p + o)) 24)) := by
    intro d
    induction d with
    | zero =>
      intro n k hk hn
      obtain ⟨n, rfl⟩ : ∃ m, n = m + 1 := ⟨n - 1, by omega⟩
      rw [m_X8_boundOf_L5, if_pos (by rw [z_lt (by omega) (by omega)]; omega), show k = 24 by omega]
    | succ d ih =>
      intro n k hk hn
      obtain ⟨n, rfl⟩ : ∃ m, n = m + 1 := ⟨n - 1, by omega⟩
      have e := ih n (k + 1) (by omega) (by omega)
      rw [bnd] at e
      rw [m_X8_boundOf_L5, if_neg (by rw [z_lt (by omega) (by omega)]; omega), r_knows h hp ho (by omega) (by omega), b_b]
      by_cases c : tt_kn T (4 * p + o) (k + 1) = true
      · rw [if_pos c] at e
        rw [if_pos c, if_neg (by decide), m_X8_boundOf_j29, nI_add]; exact e
      · rw [if_neg c] at e
        rw [if_neg c, if_pos (by decide), m_X8_boundOf_j29, nI_add]; exact e
  exact key 24 FU 0 (by omega) (by have := FUb; omega)
theorem r_rangesOf (h : RepR T (w 1)) {p o : Nat} (hp : p < 8) (ho : o < 4) (h25 : tt_kn T (4 * p + o) 25 = false) : m_X8_rangesOf (nI p) (nI o) w = some (nI (gc (tt_kn T (4 * p + o)))) := by
  have key : ∀ (d n k : Nat), k + d = 23 → d < n → m_X8_rangesOf_L5 (nI p) (nI o) w n (nI (fb_ct (fun i => gapEnd (tt_kn T (4 * p + o)) (i + 1)) k)) (nI (k + 1)) = some (nI (fb_ct (fun i => gapEnd (tt_kn T (4 * p + o)) (i + 1)) 23)) := by
    intro d
    induction d with
    | zero =>
      intro n k hk hn
      obtain ⟨n, rfl⟩ : ∃ m, n = m + 1 := ⟨n - 1, by omega⟩
      rw [m_X8_rangesOf_L5, if_pos (by rw [z_le (by omega) (by omega)]; omega), show k = 23 by omega]
    | succ d ih =>
      intro n k hk hn
      obtain ⟨n, rfl⟩ : ∃ m, n = m + 1 := ⟨n - 1, by omega⟩
      have e := ih n (k + 1) (by omega) (by omega)
      rw [fb_ct_succ] at e
      rw [m_X8_rangesOf_L5, if_neg (by rw [z_le (by omega) (by omega)]; omega), r_knows h hp ho (by omega) (by omega), b_b]
      by_cases c : tt_kn T (4 * p + o) (k + 1) = true
      · rw [if_neg (by unfold gapEnd; rw [c]; simp), Nat.add_zero] at e
        rw [if_pos c, if_pos (by decide), m_X8_rangesOf_j41, m_X8_rangesOf_j42, lt_eq, nI_add, nI_add, Nat.add_zero]; exact e
      · rw [if_neg c, if_neg (by decide), nI_add, r_knows h hp ho (by omega) (by omega), b_b]
        by_cases g : tt_kn T (4 * p + o) (k + 1 + 1) = true
        · rw [if_pos (by unfold gapEnd; rw [g]; simpa using c)] at e
          rw [if_pos g, if_neg (by decide), m_X8_rangesOf_j42, lt_eq, nI_add, nI_add]; exact e
        · rw [if_neg (by unfold gapEnd; simp only [Bool.not_eq_true] at g; rw [g]; simp), Nat.add_zero] at e
          rw [if_neg g, if_pos (by decide), m_X8_rangesOf_j41, m_X8_rangesOf_j42, lt_eq, nI_add, nI_add, Nat.add_zero]; exact e
  have e24 : gc (tt_kn T (4 * p + o)) = fb_ct (fun i => gapEnd (tt_kn T (4 * p + o)) (i + 1)) 23 := by
    unfold gc
    rw [fb_ct_succ, if_neg (by unfold gapEnd; rw [h25]; simp), Nat.add_zero]
  rw [e24]
  exact key 23 FU 0 (by omega) (by have := FUb; omega)
theorem r_allRanges (h : RepR T (w 1)) {p : Nat} (hp : p < 8) (h25 : ∀ o, o < 4 → tt_kn T (4 * p + o) 25 = false) : m_X8_allRanges (nI p) w = some (nI (sum4 (fun o => gc (tt_kn T (4 * p + o))))) := by
  obtain ⟨N, hN, -⟩ := FU5
  have st : ∀ n a o, o < 4 → m_X8_allRanges_L4 (nI p) w (n + 1) (nI a) (nI o) = m_X8_allRanges_L4 (nI p) w n (nI (a + gc (tt_kn T (4 * p + o)))) (nI (o + 1)) := by
    intro n a o ho
    rw [m_X8_allRanges_L4, if_neg (by rw [z_le (by omega) (by omega)]; omega), r_rangesOf h hp ho (h25 o ho), b_b, lt_eq, nI_add, nI_add]
  rw [m_X8_allRanges, hN, st (N + 4) 0 0 (by omega), st (N + 3) _ 1 (by omega), st (N + 2) _ 2 (by omega), st (N + 1) _ 3 (by omega), m_X8_allRanges_L4, if_pos (by decide), Nat.zero_add]
  rfl
theorem r_knownMany (h : RepR T (w 1)) {p o : Nat} (hp : p < 8) (ho : o < 4) : m_X8_knownMany (nI p) (nI o) w = some (nI (kc (tt_kn T (4 * p + o)))) := by
  have key : ∀ (d n k : Nat), k + d = 24 → d < n → m_X8_knownMany_L5 (nI p) (nI o) w n (nI (fb_ct (fun i => tt_kn T (4 * p + o) (i + 1)) k)) (nI (k + 1)) = some (nI (kc (tt_kn T (4 * p + o)))) := by
    intro d
    induction d with
    | zero =>
      intro n k hk hn
      obtain ⟨n, rfl⟩ : ∃ m, n = m + 1 := ⟨n - 1, by omega⟩
      rw [m_X8_knownMany_L5, if_pos (by rw [z_lt (by omega) (by omega)]; omega), show k = 24 by omega]
      rfl
    | succ d ih =>
      intro n k hk hn
      obtain ⟨n, rfl⟩ : ∃ m, n = m + 1 := ⟨n - 1, by omega⟩
      have e := ih n (k + 1) (by omega) (by omega)
      rw [fb_ct_succ] at e
      rw [m_X8_knownMany_L5, if_neg (by rw [z_lt (by omega) (by omega)]; omega), r_knows h hp ho (by omega) (by omega), b_b]
      by_cases c : tt_kn T (4 * p + o) (k + 1) = true
      · rw [if_pos c] at e
        rw [if_pos c, if_neg (by decide), m_X8_knownMany_j29, lt_eq, nI_add, nI_add]; exact e
      · rw [if_neg c] at e
        rw [if_neg c, if_pos (by decide), m_X8_knownMany_j29, lt_eq, nI_add, nI_add]; exact e
  exact key 24 FU 0 (by omega) (by have := FUb; omega)
/-! the served prefixes -/
def RepS (w : Wd) (P : Nat → Nat) : Prop := ∀ o, o < 4 → w 5 o = nI (P o)
theorem repS_set {w : Wd} {P : Nat → Nat} (hP : RepS w P) (o c : Nat) : RepS (wset w 5 o (nI c)) (va_up P o c) := by
  intro j hj
  rw [wset_same]
  by_cases e : j = o
  · subst e; rw [upd_s, up_s]
  · rw [upd_n e, up_n e]; exact hP j hj
theorem r_isCaused (h : RepR T (w 1)) (I : InvB T) {P : Nat → Nat} (hP : RepS w P) (hb : ∀ o, P o ≤ 24) {o v : Nat} (ho : o < 4) (h1 : 1 ≤ v) (hv : v ≤ 24) : m_X8_isCaused (nI o) (nI v) w = some (nI (if hasC T P o v then 1 else 0)) := by
  obtain ⟨N, hN, -⟩ := FU5
  have st : ∀ (n b f : Nat), b ≤ 1 → f < 4 → m_X8_isCaused_L5 (nI o) (nI v) w (n + 1) (nI b) (nI f) = m_X8_isCaused_L5 (nI o) (nI v) w n (nI (if b = 1 ∧ tt_ca T (96 * o + 4 * (v - 1) + f) ≤ P f then 1 else 0)) (nI (f + 1)) := by
    intro n b f hbb hf
    have hc := it_ca I (j := 96 * o + 4 * (v - 1) + f) (by omega)
    have hpf := hb f
    rw [m_X8_isCaused_L5, if_neg (by rw [z_le (by omega) (by omega)]; omega)]
    by_cases c : b = 0
    · rw [if_pos (by rw [c]; rfl), m_X8_isCaused_j37, m_X8_isCaused_j38, nI_add, if_neg (by omega)]
    · rw [if_neg (by rw [z_eq0 (by omega)]; exact c), r_causeOf h ho h1 hv hf, b_b, if_pos (by rw [z_ib (by omega)]; exact hf)]
      by_cases d : tt_ca T (96 * o + 4 * (v - 1) + f) ≤ P f
      · rw [if_neg (by rw [nI_clamp (by omega), hP f hf, z_lt (by omega) (by omega)]; omega), m_X8_isCaused_j38, nI_add, if_pos ⟨by omega, d⟩]
      · rw [if_pos (by rw [nI_clamp (by omega), hP f hf, z_lt (by omega) (by omega)]; omega), m_X8_isCaused_j37, m_X8_isCaused_j38, nI_add, if_neg (fun q => d q.2)]
  have lb : ∀ {c : Prop} [Decidable c], (if c then 1 else 0) ≤ 1 := by intro c _; split <;> omega
  rw [m_X8_isCaused, hN, st (N + 4) 1 0 (by omega) (by omega), st (N + 3) _ 1 lb (by omega), st (N + 2) _ 2 lb (by omega), st (N + 1) _ 3 lb (by omega), m_X8_isCaused_L5, if_pos (by decide), andb]
  congr 2
  unfold hasC
  by_cases c0 : tt_ca T (96 * o + 4 * (v - 1)) ≤ P 0
  · by_cases c1 : tt_ca T (96 * o + 4 * (v - 1) + 1) ≤ P 1
    · by_cases c2 : tt_ca T (96 * o + 4 * (v - 1) + 2) ≤ P 2
      · by_cases c3 : tt_ca T (96 * o + 4 * (v - 1) + 3) ≤ P 3
        · simp [c0, c1, c2, c3]
        · simp [c3]
      · simp [c2]
    · simp [c1]
  · simp [c0]
theorem rr_5 {w' : Wd} (h : RepR T (w 1)) (hf : ∀ k, k ≠ 5 → w' k = w k) : RepR T (w' 1) := by rw [hf 1 (by omega)]; exact h
theorem r_s_L14 {p o : Nat} (hp : p < 8) (ho : o < 4) (kx : Wd → Option Wd) : ∀ (d n k : Nat) (w : Wd), k + d = pre (tt_kn T (4 * p + o)) → d < n → RepR T (w 1) → w 5 o = nI k → m_X8_serves_L14 (nI p) (nI o) kx n w = kx (wset w 5 o (nI (pre (tt_kn T (4 * p + o))))) := by
  have hle := pre_le (tt_kn T (4 * p + o))
  have hin : ∀ v, 1 ≤ v → v ≤ pre (tt_kn T (4 * p + o)) → tt_kn T (4 * p + o) v = true := fun v a b => pre_in a b
  have hout := fun h => pre_out (f := tt_kn T (4 * p + o)) h
  generalize pre (tt_kn T (4 * p + o)) = Q at hle hin hout ⊢
  have hib : ib (nI o) 4 := by rw [z_ib (by omega)]; exact ho
  have hcl : (nI o).toNatClampNeg = o := nI_clamp (by omega)
  intro d
  induction d with
  | zero =>
    intro n k w hk hn h e
    obtain ⟨n, rfl⟩ : ∃ m, n = m + 1 := ⟨n - 1, by omega⟩
    have ek : k = Q := by omega
    subst ek
    have es : wset w 5 o (nI k) = w := by
      funext a j
      by_cases c : a = 5
      · subst c
        rw [wset_same]
        by_cases g : j = o
        · subst g; rw [upd_s, e]
        · rw [upd_n g]
      · rw [wset_ne c]
    rw [m_X8_serves_L14, if_pos hib, es]
    by_cases c : 24 ≤ k
    · rw [if_pos (by rw [hcl, e, z_le (by omega) (by omega)]; exact c)]
    · rw [if_neg (by rw [hcl, e, z_le (by omega) (by omega)]; exact c), if_pos hib, show (w 5 (nI o).toNatClampNeg) + nI 1 = nI (k + 1) by rw [hcl, e, nI_add], r_knows h hp ho (by omega) (by omega), b_b, hout (by omega), if_pos (by decide)]
  | succ d ih =>
    intro n k w hk hn h e
    obtain ⟨n, rfl⟩ : ∃ m, n = m + 1 := ⟨n - 1, by omega⟩
    have e1 : (w 5 (nI o).toNatClampNeg) + nI 1 = nI (k + 1) := by rw [hcl, e, nI_add]
    rw [m_X8_serves_L14, if_pos hib, if_neg (by rw [hcl, e, z_le (by omega) (by omega)]; omega), if_pos hib, e1, r_knows h hp ho (by omega) (by omega), b_b, hin (k + 1) (by omega) (by omega), if_neg (by decide), if_pos hib, if_pos hib, lt_eq, hcl]
    have := ih n (k + 1) (wset w 5 o (nI (k + 1))) (by omega) (by omega) (by rw [wset_ne (by omega)]; exact h) (by rw [wset_same, upd_s])
    rw [this]
    congr 1
    funext a j
    by_cases c : a = 5
    · subst c
      rw [wset_same, wset_same, wset_same]
      by_cases g : j = o
      · subst g; rw [upd_s, upd_s]
      · rw [upd_n g, upd_n g, upd_n g]
    · rw [wset_ne c, wset_ne c, wset_ne c]
end RLEAF
