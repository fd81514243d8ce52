/-! ===== counting ===== -/
def chN (T : TT) (p : Nat) : Nat := fb_ct (fun i => decide (tt_pa T (i + 1) = p)) (tt_nu T 0 - 1)
def dep (T : TT) : Nat → Nat → Nat
  | 0, _ => 0
  | n + 1, a => if a = 0 then 0 else dep T n (tt_pa T a) + 1
def kc (f : Nat → Bool) : Nat := fb_ct (fun i => f (i + 1)) 24
def ecn (f : Nat → Bool) : Nat := bnd f 24 - kc f
def vsz (f : Nat → Bool) : Nat := gc f + (if kc f = 0 then 0 else 1)
def sum4 (g : Nat → Nat) : Nat := g 0 + g 1 + g 2 + g 3
/-- the version, from v on, that is the i-th one of those that f lacks -/
def exA (f : Nat → Bool) : Nat → Nat → Nat → Nat
  | 0, _, _ => 0
  | d + 1, v, i => if f v then exA f d (v + 1) i else if i = 0 then v else exA f d (v + 1) (i - 1)
theorem kc_le (f : Nat → Bool) : kc f ≤ 24 := fb_ct_le _ 24
theorem kc_bnd (f : Nat → Bool) : kc f ≤ bnd f 24 := by
  have h1 := fb_ct_split (fun i => f (i + 1)) (bnd f 24) (24 - bnd f 24)
  have hb := bnd_le f 24
  have h2 : fb_ct (fun k => f (bnd f 24 + k + 1)) (24 - bnd f 24) = 0 := fb_ct_zero.mpr (fun k hk => bnd_out f 24 _ (by omega) (by omega))
  rw [show bnd f 24 + (24 - bnd f 24) = 24 by omega, h2] at h1
  have h3 := fb_ct_le (fun i => f (i + 1)) (bnd f 24)
  unfold kc
  omega
theorem kc_bits (f : Nat → Bool) : (bits f 24 = 0) = (kc f = 0) := by
  apply propext
  rw [bits_zero]
  unfold kc
  rw [fb_ct_zero]
  constructor
  · intro h k hk
    exact h (k + 1) (by omega) (by omega)
  · intro h v h1 h2
    have := h (v - 1) (by omega)
    rwa [show v - 1 + 1 = v by omega] at this
section COUNTS
variable {T : TT} {w : Wd}
theorem e_children_L (h : RepC 0 T w) (I : InvB T) {p : Nat} (hp : p < 8) : ∀ (d n k : Nat), k + d + 1 = tt_nu T 0 → d < n → m_X5_childrenOf_L4 (nI p) w n (nI (fb_ct (fun i => decide (tt_pa T (i + 1) = p)) k)) (nI (k + 1)) = some (nI (chN T p)) := by
  have hnp := it_np I
  intro d
  induction d with
  | zero =>
    intro n k hk hn
    obtain ⟨n, rfl⟩ : ∃ m, n = m + 1 := ⟨n - 1, by omega⟩
    rw [m_X5_childrenOf_L4, rc_nu h (by omega), if_pos (by rw [z_le (by omega) (by omega)]; omega), chN, show tt_nu T 0 - 1 = k by omega]
  | succ d ih =>
    intro n k hk hn
    obtain ⟨n, rfl⟩ : ∃ m, n = m + 1 := ⟨n - 1, by omega⟩
    have e := ih n (k + 1) (by omega) (by omega)
    rw [fb_ct_succ] at e
    rw [m_X5_childrenOf_L4, rc_nu h (by omega), if_neg (by rw [z_le (by omega) (by omega)]; omega), e_isChildOf h I (by omega) (by omega) hp, b_b]
    by_cases c : tt_pa T (k + 1) = p
    · rw [if_pos (by simpa using c)] at e
      rw [if_pos c, if_neg (by decide), m_X5_childrenOf_j24, nI_add, nI_add]; exact e
    · rw [if_neg (by simpa using c), Nat.add_zero] at e
      rw [if_neg c, if_pos (by decide), m_X5_childrenOf_j24, nI_add]; exact e
theorem e_childrenOf (h : RepC 0 T w) (I : InvB T) {p : Nat} (hp : p < 8) : m_X5_childrenOf (nI p) w = some (nI (chN T p)) := by
  have hnp := it_np I
  have hF := FUb
  exact e_children_L h I hp (tt_nu T 0 - 1) FU 0 (by omega) (by omega)
theorem e_steps_L (h : RepC 0 T w) (I : InvB T) : ∀ (d n s a : Nat), s + d = 8 → d < n → a < 8 → m_X5_stepsToRoot_L4 w n (nI s) (nI a) = some (nI (s + dep T d a)) := by
  intro d
  induction d with
  | zero =>
    intro n s a hs hn ha
    obtain ⟨n, rfl⟩ : ∃ m, n = m + 1 := ⟨n - 1, by omega⟩
    rw [m_X5_stepsToRoot_L4]
    by_cases c : a = 0
    · rw [if_pos (by rw [c]; rfl)]; rfl
    · rw [if_neg (by rw [z_eq0 (by omega)]; exact c), if_pos (by rw [z_le (by omega) (by omega)]; omega)]; rfl
  | succ d ih =>
    intro n s a hs hn ha
    obtain ⟨n, rfl⟩ : ∃ m, n = m + 1 := ⟨n - 1, by omega⟩
    rw [m_X5_stepsToRoot_L4, dep]
    by_cases c : a = 0
    · rw [if_pos (by rw [c]; rfl), if_pos c]; rfl
    · have hpa := I.2.2.2.1 a ha
      rw [if_neg (by rw [z_eq0 (by omega)]; exact c), if_neg (by rw [z_le (by omega) (by omega)]; omega), if_neg c, e_parentOf h ha, b_b, nI_add, ih n (s + 1) (tt_pa T a) (by omega) (by omega) hpa, show s + 1 + dep T d (tt_pa T a) = s + (dep T d (tt_pa T a) + 1) by omega]
theorem e_stepsToRoot (h : RepC 0 T w) (I : InvB T) {p : Nat} (hp : p < 8) : m_X5_stepsToRoot (nI p) w = some (nI (dep T 8 p)) := by
  have := e_steps_L h I 8 FU 0 p (by omega) (by have := FUb; omega) hp
  rw [Nat.zero_add] at this
  exact this
theorem e_writtenCount (h : RepC 0 T w) : m_X5_writtenCount w = some (nI (sum4 (tt_wr T))) := by
  obtain ⟨N, hN, -⟩ := FU5
  have st : ∀ n a o, o < 4 → m_X5_writtenCount_L4 w (n + 1) (nI a) (nI o) = m_X5_writtenCount_L4 w n (nI (a + tt_wr T o)) (nI (o + 1)) := by
    intro n a o ho
    rw [m_X5_writtenCount_L4, if_neg (by rw [z_le (by omega) (by omega)]; omega), e_writtenOf h ho, b_b, lt_eq, nI_add, nI_add]
  rw [m_X5_writtenCount, hN, st (N + 4) 0 0 (by omega), st (N + 3) _ 1 (by omega), st (N + 2) _ 2 (by omega), st (N + 1) _ 3 (by omega), m_X5_writtenCount_L4, if_pos (by decide), Nat.zero_add]
  rfl
theorem e_knownCount (h : RepC 0 T w) {p : Nat} (hp : p < 8) : m_X5_knownCount (nI p) w = some (nI (sum4 (fun o => kc (tt_kn T (4 * p + o))))) := by
  obtain ⟨N, hN, -⟩ := FU5
  have st : ∀ n a o, o < 4 → m_X5_knownCount_L4 (nI p) w (n + 1) (nI a) (nI o) = m_X5_knownCount_L4 (nI p) w n (nI (a + kc (tt_kn T (4 * p + o)))) (nI (o + 1)) := by
    intro n a o ho
    rw [m_X5_knownCount_L4, if_neg (by rw [z_le (by omega) (by omega)]; omega), e_knownOf h hp ho, b_b, e_sizeOf, b_b, lt_eq, nI_add, nI_add]
    rfl
  rw [m_X5_knownCount, hN, st (N + 4) 0 0 (by omega), st (N + 3) _ 1 (by omega), st (N + 2) _ 2 (by omega), st (N + 1) _ 3 (by omega), m_X5_knownCount_L4, if_pos (by decide), Nat.zero_add]
  rfl
theorem e_exceptionsIn (f : Nat → Bool) : m_X6_exceptionsIn (nI (bits f 24)) = some (nI (ecn f)) := by
  rw [m_X6_exceptionsIn, e_greatest, b_b, e_sizeOf, b_b]
  exact congrArg some (z_sub (kc_bnd f))
theorem e_exceptionCount (h : RepC 0 T w) {p : Nat} (hp : p < 8) : m_X5_exceptionCount (nI p) w = some (nI (sum4 (fun o => ecn (tt_kn T (4 * p + o))))) := by
  obtain ⟨N, hN, -⟩ := FU5
  have st : ∀ n a o, o < 4 → m_X5_exceptionCount_L4 (nI p) w (n + 1) (nI a) (nI o) = m_X5_exceptionCount_L4 (nI p) w n (nI (a + ecn (tt_kn T (4 * p + o)))) (nI (o + 1)) := by
    intro n a o ho
    rw [m_X5_exceptionCount_L4, if_neg (by rw [z_le (by omega) (by omega)]; omega), e_knownOf h hp ho, b_b, e_exceptionsIn, b_b, lt_eq, nI_add, nI_add]
  rw [m_X5_exceptionCount, hN, st (N + 4) 0 0 (by omega), st (N + 3) _ 1 (by omega), st (N + 2) _ 2 (by omega), st (N + 1) _ 3 (by omega), m_X5_exceptionCount_L4, if_pos (by decide), Nat.zero_add]
  rfl
theorem e_vectorSize (h : RepC 0 T w) (I : InvT T) {p : Nat} (hp : p < 8) : m_X5_vectorSize (nI p) w = some (nI (sum4 (fun o => vsz (tt_kn T (4 * p + o))))) := by
  obtain ⟨N, hN, -⟩ := FU5
  have st : ∀ n a o, o < 4 → m_X5_vectorSize_L4 (nI p) w (n + 1) (nI a) (nI o) = m_X5_vectorSize_L4 (nI p) w n (nI (a + vsz (tt_kn T (4 * p + o)))) (nI (o + 1)) := by
    intro n a o ho
    have hb := bits_24 (tt_kn T (4 * p + o))
    rw [m_X5_vectorSize_L4, if_neg (by rw [z_le (by omega) (by omega)]; omega), e_knownOf h hp ho, b_b, e_rangesIn _ (it_k25 I _ (by omega)), b_b]
    unfold vsz
    by_cases c : kc (tt_kn T (4 * p + o)) = 0
    · rw [if_pos (by rw [z_eq0 (by omega), kc_bits]; exact c), m_X5_vectorSize_j33, lt_eq, nI_add, nI_add, nI_add, if_pos c]; rfl
    · rw [if_neg (by rw [z_eq0 (by omega), kc_bits]; exact c), m_X5_vectorSize_j33, lt_eq, nI_add, nI_add, nI_add, if_neg c]; rfl
  rw [m_X5_vectorSize, hN, st (N + 4) 0 0 (by omega), st (N + 3) _ 1 (by omega), st (N + 2) _ 2 (by omega), st (N + 1) _ 3 (by omega), m_X5_vectorSize_L4, if_pos (by decide), Nat.zero_add]
  rfl
def covO (T : TT) (p q o : Nat) : Bool := decide (bits (fun v => tt_kn T (4 * q + o) v && !tt_kn T (4 * p + o) v) 24 = 0)
def covS (T : TT) (p q : Nat) : Bool := covO T p q 0 && covO T p q 1 && covO T p q 2 && covO T p q 3
def utd (T : TT) : Nat := fb_ct (fun p => decide (sum4 (pfx T p) = sum4 (tt_wr T))) (tt_nu T 0)
theorem e_utd_L (I : InvT T) : ∀ (d n k : Nat) (w : Wd), k + d = tt_nu T 0 → d < n → RepC 0 T w → ∃ w', m_X7_upToDate_L12 (nI (sum4 (tt_wr T))) n (nI (fb_ct (fun p => decide (sum4 (pfx T p) = sum4 (tt_wr T))) k)) (nI k) w = some (nI (utd T), w') ∧ ∀ k, k ≠ 474 → w' k = w k := by
  have hnp := it_np I.B
  intro d
  induction d with
  | zero =>
    intro n k w hk hn h
    obtain ⟨n, rfl⟩ : ∃ m, n = m + 1 := ⟨n - 1, by omega⟩
    refine ⟨w, ?_, fun _ _ => rfl⟩
    rw [m_X7_upToDate_L12, rc_nu h (by omega), if_pos (by rw [z_le (by omega) (by omega)]; omega), utd, ← hk, Nat.add_zero]
  | succ d ih =>
    intro n k w hk hn h
    obtain ⟨n, rfl⟩ : ∃ m, n = m + 1 := ⟨n - 1, by omega⟩
    obtain ⟨w1, a1, a2⟩ := e_servedCount h I.B (p := k) (by omega)
    obtain ⟨w', b1, b2⟩ := ih n (k + 1) w1 (by omega) (by omega) (rc_474 h a2)
    rw [fb_ct_succ] at b1
    refine ⟨w', ?_, fun j hj => (b2 j hj).trans (a2 j hj)⟩
    have q0 := pfx_le T k 0
    have q1 := pfx_le T k 1
    have q2 := pfx_le T k 2
    have q3 := pfx_le T k 3
    have r0 := it_wr I (o := 0) (by omega)
    have r1 := it_wr I (o := 1) (by omega)
    have r2 := it_wr I (o := 2) (by omega)
    have r3 := it_wr I (o := 3) (by omega)
    have l1 : sum4 (pfx T k) < 100 := by unfold sum4; omega
    have l2 : sum4 (tt_wr T) < 100 := by unfold sum4; omega
    have a1' : m_X0_servedCount (nI k) w = some (nI (sum4 (pfx T k)), w1) := a1
    rw [m_X7_upToDate_L12, rc_nu h (by omega), if_neg (by rw [z_le (by omega) (by omega)]; omega), a1', b_b]
    by_cases c : sum4 (pfx T k) = sum4 (tt_wr T)
    · rw [if_pos (by simpa using c)] at b1
      rw [if_neg (by rw [c]; exact fun q => q rfl), m_X7_upToDate_j38, nI_add, nI_add]; exact b1
    · rw [if_neg (by simpa using c), Nat.add_zero] at b1
      rw [if_pos (by rw [z_eq (by omega) (by omega)]; exact c), m_X7_upToDate_j38, nI_add]; exact b1
end COUNTS
/-! ===== what the calls that change nothing answer ===== -/
def sq_proxy (T : TT) (p k : Nat) : Int32 := if p < tt_nu T 0 then (if k = 0 then (if p = 0 then -9 else nI (tt_pa T p)) else if k = 1 then nI (dep T 8 p) else if k = 2 then nI (chN T p) else if k = 3 then nI (sum4 (fun o => kc (tt_kn T (4 * p + o)))) else if k = 4 then nI (sum4 (pfx T p)) else if k = 5 then nI (tt_li T p).length else if k = 6 then nI (sum4 (fun o => vsz (tt_kn T (4 * p + o)))) else if k = 7 then nI (sum4 (fun o => ecn (tt_kn T (4 * p + o)))) else -1) else -1
def sq_count (T : TT) (n k : Nat) : Int32 := if k = 0 then nI (tt_nu T 0) else if k = 1 then nI (tt_nu T 1) else if k = 2 then nI (tt_nu T 2) else if k = 3 then nI (sum4 (tt_wr T)) else if k = 4 then nI (tt_nu T 3) else if k = 5 then nI (tt_nu T 4) else if k = 6 then nI (tt_nu T 5) else if k = 7 then nI (tt_nu T 6) else if k = 8 then nI n else -1
def sq_cause (T : TT) (o v f : Nat) : Int32 := if f < 4 ∧ wasW T o v then nI (tt_ca T (96 * o + 4 * (v - 1) + f)) else -1
def sq_queued (T : TT) (c d : Nat) (x : Int32) : Int32 := if (1 ≤ c ∧ c < tt_nu T 0) ∧ d < 2 then (if x < -1 then -1 else if x = -1 then nI (tt_li T (qi c d)).length else if dn x < (tt_li T (qi c d)).length then nI ((tt_li T (qi c d)).getD (dn x) 0) else -9) else -1
def sq_bound (T : TT) (p o : Nat) : Int32 := if p < tt_nu T 0 ∧ o < 4 then nI (bnd (tt_kn T (4 * p + o)) 24) else -1
def sq_exc (T : TT) (p o : Nat) (x : Int32) : Int32 := if p < tt_nu T 0 ∧ o < 4 then (if x < -1 then -1 else if x = -1 then nI (gc (tt_kn T (4 * p + o))) else if dn x < ecn (tt_kn T (4 * p + o)) then nI (exA (tt_kn T (4 * p + o)) 24 1 (dn x)) else -9) else -1
def sq_served (T : TT) (p o : Nat) : Int32 := if p < tt_nu T 0 ∧ o < 4 then nI (pfx T p o) else -1
def sq_status (T : TT) (p o v : Nat) : Int32 := if p < tt_nu T 0 ∧ wasW T o v then (if tt_kn T (4 * p + o) v then (if v ≤ pfx T p o then (if 100 * o + v ∈ tt_li T p then nI 3 else nI 2) else nI 1) else nI 0) else -1
def sq_missing (T : TT) (p o v : Nat) : Int32 := if p < tt_nu T 0 ∧ wasW T o v then nI (missC T p o v) else -1
def sq_kept (T : TT) (p : Nat) (x : Int32) : Int32 := if p < tt_nu T 0 then (if x < 0 then -1 else if dn x < (tt_li T p).length then nI ((tt_li T p).getD (dn x) 0) else -9) else -1
def sq_covers (T : TT) (p q : Nat) : Int32 := if p < tt_nu T 0 ∧ q < tt_nu T 0 then nI (if covS T p q then 1 else 0) else -1
theorem z_mm (x : Int32) : x < -1 ∨ x = -1 ∨ ∃ n : Nat, n < 2 ^ 31 ∧ x = nI n := by
  rcases z_or x with h | h
  · by_cases c : x = -1
    · exact Or.inr (Or.inl c)
    · left
      rw [fa_eq] at c
      rw [fa_lt] at h ⊢
      have e1 : (0 : Int32).toInt = 0 := by decide
      have e2 : (-1 : Int32).toInt = -1 := by decide
      omega
  · exact Or.inr (Or.inr h)
theorem z_m1le {n : Nat} (hn : n < 2 ^ 31) : (-1 : Int32) ≤ nI n ∧ ¬ nI n = (-1 : Int32) ∧ ¬ nI n < (-1 : Int32) := by
  have h := nI_pos hn
  rw [fa_lt] at h
  have e1 : (0 : Int32).toInt = 0 := by decide
  have e2 : (-1 : Int32).toInt = -1 := by decide
  refine ⟨?_, ?_, ?_⟩
  · rw [fa_le]; omega
  · rw [fa_eq]; omega
  · rw [fa_lt]; omega
theorem z_m1no {x : Int32} (h : x < -1) : ¬ (-1 : Int32) ≤ x := (fa_of_lt h).2.1
section API
variable {T : TT} {w : Wd}
theorem e_at' {q : Nat} {w : Wd} {l : List Nat} (h : RLn (w q 1) (w (q + 1)) l) (hR : l.length ≤ lroom q) (hb : lroom q < 1000) {k : Nat} (hk : k < l.length) : m_X2_at q (nI k) w = some (nI (l.getD k 0)) := by
  rw [e_at h hR hb hk, List.getD_eq_getElem?_getD, List.getElem?_eq_getElem hk]
  rfl
theorem a_hasProxy (h : RepC 0 T w) (I : InvB T) (x : Int32) : m_X5_hasProxy x w = some (nI (if dn x < tt_nu T 0 then 1 else 0)) := by
  have hnp := it_np I
  rcases z_or x with hx | ⟨n, hn, rfl⟩
  · rw [e_hasProxy_neg hx, dn_neg hx, if_neg (by omega)]
  · rw [dn_nI hn]
    by_cases c : n < tt_nu T 0
    · rw [e_hasProxy h I c, if_pos c]
    · rw [e_hasProxy_no h I (by omega) hn, if_neg c]
theorem a_isOrigin (x : Int32) : m_X7_isOrigin x = some (nI (if dn x < 4 then 1 else 0)) := by
  rcases z_or x with hx | ⟨n, hn, rfl⟩
  · rw [e_isOrigin_neg hx, dn_neg hx, if_neg (by omega)]
  · rw [dn_nI hn]
    by_cases c : n < 4
    · rw [e_isOrigin c, if_pos c]
    · rw [e_isOrigin_no (by omega) hn, if_neg c]
theorem dn_lt {x : Int32} {m : Nat} (h : dn x < m) (hm : m ≤ 2 ^ 31) : x = nI (dn x) := by
  rcases z_or x with hx | ⟨n, hn, rfl⟩
  · rw [dn_neg hx] at h; omega
  · rw [dn_nI hn]
theorem q_proxy (h : RepC 0 T w) (I : InvT T) (x y : Int32) : ∃ w', m_X7_proxy x y w = some (sq_proxy T (dn x) (dn y), w') ∧ ∀ k, k ≠ 474 → w' k = w k := by
  have hnp := it_np I.B
  rw [m_X7_proxy, a_hasProxy h I.B, b_b]
  unfold sq_proxy
  by_cases c : dn x < tt_nu T 0
  · have ex := dn_lt c (by omega)
    generalize dn x = p at *
    subst ex
    rw [if_pos c, if_pos (by decide), if_pos c]
    have hp8 : p < 8 := by omega
    rcases z_or y with hy | ⟨k, hk, rfl⟩
    · have ne : ∀ n, n < 2 ^ 31 → ¬ y = nI n := fun n hn e => nI_pos hn (e ▸ hy)
      rw [if_neg (ne 0 (by omega)), if_neg (ne 1 (by omega)), if_neg (ne 2 (by omega)), if_neg (ne 3 (by omega)), if_neg (ne 4 (by omega)), if_neg (ne 5 (by omega)), if_neg (ne 6 (by omega)), if_neg (ne 7 (by omega)), dn_neg hy]
      exact ⟨w, rfl, fun _ _ => rfl⟩
    rw [dn_nI hk]
    have keep : ∀ {a : Int32}, ∃ w', some (a, w) = some (a, w') ∧ ∀ k, k ≠ 474 → w' k = w k := ⟨w, rfl, fun _ _ => rfl⟩
    by_cases k0 : k = 0
    · rw [if_pos (by rw [k0]), if_pos k0]
      by_cases g : p = 0
      · rw [if_neg (by rw [g]; exact fun q => q rfl), if_pos g]; exact keep
      · rw [if_pos (by rw [z_eq0 (by omega)]; exact g), if_neg g, e_parentOf h hp8, b_b]; exact keep
    rw [if_neg (by rw [z_eq hk (by omega)]; exact k0), if_neg k0]
    by_cases k1 : k = 1
    · rw [if_pos (by rw [k1]), if_pos k1, e_stepsToRoot h I.B hp8, b_b]; exact keep
    rw [if_neg (by rw [z_eq hk (by omega)]; exact k1), if_neg k1]
    by_cases k2 : k = 2
    · rw [if_pos (by rw [k2]), if_pos k2, e_childrenOf h I.B hp8, b_b]; exact keep
    rw [if_neg (by rw [z_eq hk (by omega)]; exact k2), if_neg k2]
    by_cases k3 : k = 3
    · rw [if_pos (by rw [k3]), if_pos k3, e_knownCount h hp8, b_b]; exact keep
    rw [if_neg (by rw [z_eq hk (by omega)]; exact k3), if_neg k3]
    by_cases k4 : k = 4
    · obtain ⟨w', a1, a2⟩ := e_servedCount h I.B hp8
      rw [if_pos (by rw [k4]), if_pos k4, a1, b_b]
      exact ⟨w', rfl, a2⟩
    rw [if_neg (by rw [z_eq hk (by omega)]; exact k4), if_neg k4]
    by_cases k5 : k = 5
    · rw [if_pos (by rw [k5]), if_pos k5, e_contentsOf h I.B c, b_b, e_len (rc_li h (by omega)), b_b]; exact keep
    rw [if_neg (by rw [z_eq hk (by omega)]; exact k5), if_neg k5]
    by_cases k6 : k = 6
    · rw [if_pos (by rw [k6]), if_pos k6, e_vectorSize h I hp8, b_b]; exact keep
    rw [if_neg (by rw [z_eq hk (by omega)]; exact k6), if_neg k6]
    by_cases k7 : k = 7
    · rw [if_pos (by rw [k7]), if_pos k7, e_exceptionCount h hp8, b_b]; exact keep
    rw [if_neg (by rw [z_eq hk (by omega)]; exact k7), if_neg k7]; exact keep
  · rw [if_neg c, if_neg (by decide), if_neg c]
    exact ⟨w, rfl, fun _ _ => rfl⟩
theorem q_count (h : RepC 0 T w) {n : Nat} (hn : w 477 2 = nI n) (x : Int32) : m_X7_count x w = some (sq_count T n (dn x)) := by
  rw [m_X7_count]
  unfold sq_count
  rcases z_or x with hy | ⟨k, hk, rfl⟩
  · have ne : ∀ n, n < 2 ^ 31 → ¬ x = nI n := fun n hn e => nI_pos hn (e ▸ hy)
    rw [if_neg (ne 0 (by omega)), if_neg (ne 1 (by omega)), if_neg (ne 2 (by omega)), if_neg (ne 3 (by omega)), if_neg (ne 4 (by omega)), if_neg (ne 5 (by omega)), if_neg (ne 6 (by omega)), if_neg (ne 7 (by omega)), if_neg (ne 8 (by omega)), dn_neg hy]
    rfl
  rw [dn_nI hk, rc_nu h (by omega), rc_nu h (by omega), rc_nu h (by omega), rc_nu h (by omega), rc_nu h (by omega), rc_nu h (by omega), rc_nu h (by omega), e_writtenCount h, b_b, m_X1_savedCount, hn, b_b]
  by_cases k0 : k = 0
  · rw [if_pos (by rw [k0]), if_pos k0]
  rw [if_neg (by rw [z_eq hk (by omega)]; exact k0), if_neg k0]
  by_cases k1 : k = 1
  · rw [if_pos (by rw [k1]), if_pos k1]
  rw [if_neg (by rw [z_eq hk (by omega)]; exact k1), if_neg k1]
  by_cases k2 : k = 2
  · rw [if_pos (by rw [k2]), if_pos k2]
  rw [if_neg (by rw [z_eq hk (by omega)]; exact k2), if_neg k2]
  by_cases k3 : k = 3
  · rw [if_pos (by rw [k3]), if_pos k3]
  rw [if_neg (by rw [z_eq hk (by omega)]; exact k3), if_neg k3]
  by_cases k4 : k = 4
  · rw [if_pos (by rw [k4]), if_pos k4]
  rw [if_neg (by rw [z_eq hk (by omega)]; exact k4), if_neg k4]
  by_cases k5 : k = 5
  · rw [if_pos (by rw [k5]), if_pos k5]
  rw [if_neg (by rw [z_eq hk (by omega)]; exact k5), if_neg k5]
  by_cases k6 : k = 6
  · rw [if_pos (by rw [k6]), if_pos k6]
  rw [if_neg (by rw [z_eq hk (by omega)]; exact k6), if_neg k6]
  by_cases k7 : k = 7
  · rw [if_pos (by rw [k7]), if_pos k7]
  rw [if_neg (by rw [z_eq hk (by omega)]; exact k7), if_neg k7]
  by_cases k8 : k = 8
  · rw [if_pos (by rw [k8]), if_pos k8]
  rw [if_neg (by rw [z_eq hk (by omega)]; exact k8), if_neg k8]
theorem q_cause (h : RepC 0 T w) (I : InvT T) (x y z : Int32) : m_X7_cause x y z w = some (sq_cause T (dn x) (dn y) (dn z)) := by
  rw [m_X7_cause, a_isOrigin, b_b]
  unfold sq_cause
  by_cases c : dn z < 4
  · rw [if_pos c, if_neg (by decide), e_wasWritten h I, b_b]
    by_cases d : wasW T (dn x) (dn y)
    · have h24 := it_wr I d.1
      have ex := dn_lt d.1 (by omega)
      have ey := dn_lt (Nat.lt_succ_of_le d.2.2) (by omega)
      have ez := dn_lt c (by omega)
      generalize dn x = o at *
      generalize dn y = v at *
      generalize dn z = f at *
      subst ex; subst ey; subst ez
      rw [if_pos d, if_pos (by decide), if_pos ⟨c, d⟩, e_causeOf h d.1 d.2.1 (by have := d.2.2; omega) c, b_b]
    · rw [if_neg d, if_neg (by decide), if_neg (fun q => d q.2)]
  · rw [if_neg c, if_pos (by decide), if_neg (fun q => c q.1)]
theorem q_queued (h : RepC 0 T w) (I : InvT T) (x y z : Int32) : m_X7_queued x y z w = some (sq_queued T (dn x) (dn y) z) := by
  have hnp := it_np I.B
  rw [m_X7_queued, e_hasQueue h I.B, b_b]
  unfold sq_queued
  by_cases c : (1 ≤ dn x ∧ dn x < tt_nu T 0) ∧ dn y < 2
  · have ex := dn_lt c.1.2 (by omega)
    have ey := dn_lt c.2 (by omega)
    generalize dn x = p at *
    generalize dn y = d at *
    subst ex; subst ey
    have hqi : 8 ≤ qi p d ∧ qi p d < 24 ∧ qi p d ≠ 8 ∧ qi p d ≠ 16 := by unfold qi; split <;> omega
    have hl := rc_li h hqi.2.1
    have hl12 := it_q12 I _ hqi.1 hqi.2.1
    have hr := lrq _ hqi.2.1 hqi.1 hqi.2.2.1 hqi.2.2.2
    rw [if_pos c, if_neg (by decide), if_pos c]
    rcases z_mm z with hz | hz | ⟨n, hn, rfl⟩
    · rw [if_neg (z_m1no hz), if_pos hz]
    · subst hz
      rw [if_pos (by decide), e_queueOf h I.B c.1.1 c.1.2 c.2, b_b, if_neg (by decide), e_len hl, b_b, if_neg (by decide), if_pos rfl]
    · have hm := z_m1le hn
      rw [if_pos hm.1, e_queueOf h I.B c.1.1 c.1.2 c.2, b_b, if_pos hm.2.1, e_len hl, b_b, if_neg hm.2.2, if_neg hm.2.1, dn_nI hn]
      by_cases g : n < (tt_li T (qi p d)).length
      · rw [if_neg (by rw [z_le (by omega) hn]; omega), if_pos g, e_at' hl (by omega) (lrb _ hqi.2.1) g, b_b]
      · rw [if_pos (by rw [z_le (by omega) hn]; omega), if_neg g]
  · rw [if_neg c, if_pos (by decide), if_neg c]
theorem q_served (h : RepC 0 T w) (I : InvT T) (x y : Int32) : ∃ w', m_X7_served x y w = some (sq_served T (dn x) (dn y), w') ∧ ∀ k, k ≠ 474 → w' k = w k := by
  have hnp := it_np I.B
  rw [m_X7_served, a_hasProxy h I.B, b_b, a_isOrigin, b_b]
  unfold sq_served
  by_cases c : dn x < tt_nu T 0
  · rw [if_pos c, if_neg (by decide)]
    by_cases d : dn y < 4
    · have ex := dn_lt c (by omega)
      have ey := dn_lt d (by omega)
      generalize dn x = p at *
      generalize dn y = o at *
      subst ex; subst ey
      obtain ⟨w', a1, a2⟩ := e_servedOf h I.B (p := p) (o := o) (by omega) d
      rw [if_pos d, if_pos (by decide), if_pos ⟨c, d⟩, a1, b_b]
      exact ⟨w', rfl, a2⟩
    · rw [if_neg d, if_neg (by decide), if_neg (fun q => d q.2)]
      exact ⟨w, rfl, fun _ _ => rfl⟩
  · rw [if_neg c, if_pos (by decide), if_neg (fun q => c q.1)]
    exact ⟨w, rfl, fun _ _ => rfl⟩
theorem q_status (h : RepC 0 T w) (I : InvT T) (x y z : Int32) : ∃ w', m_X7_status x y z w = some (sq_status T (dn x) (dn y) (dn z), w') ∧ ∀ k, k ≠ 474 → w' k = w k := by
  have hnp := it_np I.B
  rw [m_X7_status, a_hasProxy h I.B, b_b, e_wasWritten h I, b_b]
  unfold sq_status
  have keep : ∀ {a : Int32}, ∃ w', some (a, w) = some (a, w') ∧ ∀ k, k ≠ 474 → w' k = w k := ⟨w, rfl, fun _ _ => rfl⟩
  by_cases c : dn x < tt_nu T 0
  · rw [if_pos c, if_neg (by decide)]
    by_cases d : wasW T (dn y) (dn z)
    · have h24 := it_wr I d.1
      have ex := dn_lt c (by omega)
      have ey := dn_lt d.1 (by omega)
      have ez := dn_lt (Nat.lt_succ_of_le d.2.2) (by omega)
      generalize dn x = p at *
      generalize dn y = o at *
      generalize dn z = v at *
      subst ex; subst ey; subst ez
      have hv : v ≤ 24 := by have := d.2.2; omega
      have ho := d.1
      rw [if_pos d, if_pos (by decide), if_pos ⟨c, d⟩, e_knows h (by omega) d.1 d.2.1 hv, b_b]
      by_cases k : tt_kn T (4 * p + o) v = true
      · obtain ⟨w', a1, a2⟩ := e_servedOf h I.B (p := p) (o := o) (by omega) d.1
        have h1 := rc_474 h a2
        have hpf := pfx_le T p o
        rw [if_pos k, if_pos (by decide), if_pos k, a1, b_b]
        by_cases g : v ≤ pfx T p o
        · rw [if_pos (by rw [z_le (by omega) (by omega)]; exact g), if_pos g, e_updateOf, b_b, e_keeps h1 I c (by omega), b_b]
          by_cases q : 100 * o + v ∈ tt_li T p
          · rw [if_pos q, if_neg (by decide), if_pos q]; exact ⟨w', rfl, a2⟩
          · rw [if_neg q, if_pos (by decide), if_neg q]; exact ⟨w', rfl, a2⟩
        · rw [if_neg (by rw [z_le (by omega) (by omega)]; exact g), if_neg g]; exact ⟨w', rfl, a2⟩
      · rw [if_neg k, if_neg (by decide), if_neg k]; exact keep
    · rw [if_neg d, if_neg (by decide), if_neg (fun q => d q.2)]; exact keep
  · rw [if_neg c, if_pos (by decide), if_neg (fun q => c q.1)]; exact keep
theorem q_missing (h : RepC 0 T w) (I : InvT T) (x y z : Int32) : ∃ w', m_X7_missing x y z w = some (sq_missing T (dn x) (dn y) (dn z), w') ∧ ∀ k, k ≠ 475 → w' k = w k := by
  have hnp := it_np I.B
  rw [m_X7_missing, a_hasProxy h I.B, b_b, e_wasWritten h I, b_b]
  unfold sq_missing
  have keep : ∀ {a : Int32}, ∃ w', some (a, w) = some (a, w') ∧ ∀ k, k ≠ 475 → w' k = w k := ⟨w, rfl, fun _ _ => rfl⟩
  by_cases c : dn x < tt_nu T 0
  · rw [if_pos c, if_neg (by decide)]
    by_cases d : wasW T (dn y) (dn z)
    · have h24 := it_wr I d.1
      have ex := dn_lt c (by omega)
      have ey := dn_lt d.1 (by omega)
      have ez := dn_lt (Nat.lt_succ_of_le d.2.2) (by omega)
      generalize dn x = p at *
      generalize dn y = o at *
      generalize dn z = v at *
      subst ex; subst ey; subst ez
      obtain ⟨w', a1, a2⟩ := e_countMissing h I.B (p := p) (o := o) (v := v) (by omega) d.1 (by have := d.2.2; omega)
      rw [if_pos d, if_pos (by decide), if_pos ⟨c, d⟩, a1, b_b]
      exact ⟨w', rfl, a2⟩
    · rw [if_neg d, if_neg (by decide), if_neg (fun q => d q.2)]; exact keep
  · rw [if_neg c, if_pos (by decide), if_neg (fun q => c q.1)]; exact keep
theorem q_kept (h : RepC 0 T w) (I : InvT T) (x y : Int32) : m_X7_kept x y w = some (sq_kept T (dn x) y) := by
  have hnp := it_np I.B
  rw [m_X7_kept, a_hasProxy h I.B, b_b]
  unfold sq_kept
  by_cases c : dn x < tt_nu T 0
  · have ex := dn_lt c (by omega)
    generalize dn x = p at *
    subst ex
    rw [if_pos c, if_neg (by decide), if_pos c]
    have hlc := lr_c I (p := p) (by omega)
    have hlb := lrb p (by omega)
    rcases z_or y with hy | ⟨n, hn, rfl⟩
    · rw [if_neg (fa_of_lt hy).2.1, if_pos hy]
    · rw [if_pos (by rw [z_0le hn]; trivial), if_neg (nI_pos hn), e_contentsOf h I.B c, b_b, e_len (rc_li h (by omega)), b_b, dn_nI hn]
      by_cases g : n < (tt_li T p).length
      · rw [if_neg (by rw [z_le (by omega) hn]; omega), if_pos g, e_at' (rc_li h (by omega)) hlc hlb g, b_b]
      · rw [if_pos (by rw [z_le (by omega) hn]; omega), if_neg g]
  · rw [if_neg c, if_pos (by decide), if_neg c]
theorem q_utd (h : RepC 0 T w) (I : InvT T) : ∃ w', m_X7_upToDate w = some (nI (utd T), w') ∧ ∀ k, k ≠ 474 → w' k = w k := by
  have hnp := it_np I.B
  have hF := FUb
  obtain ⟨w', a1, a2⟩ := e_utd_L I (tt_nu T 0) FU 0 w (by omega) (by omega) h
  exact ⟨w', by rw [m_X7_upToDate, e_writtenCount h, b_b]; exact a1, a2⟩
end API
