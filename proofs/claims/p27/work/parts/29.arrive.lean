/-! ===== learning ===== -/
def valU (u : Nat) : Prop := ∃ o v, u = 100 * o + v ∧ o < 4 ∧ 1 ≤ v ∧ v ≤ 24
theorem valU_lt {u : Nat} (h : valU u) : u < 400 := by
  obtain ⟨o, v, rfl, h1, h2, h3⟩ := h
  omega
theorem e_removeAt_L {q : Nat} (kx : Wd → Option Wd) {L : Nat} (hR : L ≤ lroom q) (hb : lroom q < 1000) : ∀ (d n j : Nat) (w : Wd), j + d = L → d < n → 1 ≤ j → w q 1 = nI L → ∃ w', m_X2_removeAt_L17 q kx n (nI j) w = kx w' ∧ (∀ i, w' (q + 1) i = if j ≤ i + 1 ∧ i + 1 < L then w (q + 1) (i + 1) else w (q + 1) i) ∧ ∀ k, k ≠ q + 1 → w' k = w k := by
  intro d
  induction d with
  | zero =>
    intro n j w hj hn h1 hs
    obtain ⟨n, rfl⟩ : ∃ m, n = m + 1 := ⟨n - 1, by omega⟩
    refine ⟨w, ?_, fun i => ?_, fun _ _ => rfl⟩
    · rw [m_X2_removeAt_L17, hs, if_pos (by rw [z_le (by omega) (by omega)]; omega)]
    · rw [if_neg (by omega)]
  | succ d ih =>
    intro n j w hj hn h1 hs
    obtain ⟨n, rfl⟩ : ∃ m, n = m + 1 := ⟨n - 1, by omega⟩
    have hne : q ≠ q + 1 := by omega
    obtain ⟨w', k1, k2, k3⟩ := ih n (j + 1) (wset w (q + 1) (j - 1) (w (q + 1) j)) (by omega) (by omega) (by omega) (by rw [wset_ne hne]; exact hs)
    refine ⟨w', ?_, fun i => ?_, fun k hk => (k3 k hk).trans (wset_ne hk)⟩
    · rw [m_X2_removeAt_L17, hs, if_neg (by rw [z_le (by omega) (by omega)]; omega), if_neg (by rw [z_le (by omega) (by omega)]; omega), if_pos (by rw [z_ib (by omega)]; omega), z_sub h1, if_pos (by rw [z_ib (by omega)]; omega), lt_eq, nI_clamp (by omega), nI_clamp (by omega), nI_add]
      exact k1
    · rw [k2 i, wset_same]
      by_cases c : j + 1 ≤ i + 1 ∧ i + 1 < L
      · rw [if_pos c, if_pos (by omega), upd_n (by omega)]
      · rw [if_neg c]
        by_cases e : i = j - 1
        · subst e
          rw [upd_s, if_pos (by omega), show j - 1 + 1 = j by omega]
        · rw [upd_n e, if_neg (by omega)]
theorem e_removeAt {q : Nat} {w : Wd} {l : List Nat} (h : RLn (w q 1) (w (q + 1)) l) (hR : l.length ≤ lroom q) (hb : lroom q < 1000) {k : Nat} (hk : k < l.length) : ∃ w', m_X2_removeAt q (nI k) w = some w' ∧ RLn (w' q 1) (w' (q + 1)) (l.eraseIdx k) ∧ ∀ a, a ≠ q → a ≠ q + 1 → w' a = w a := by
  obtain ⟨N, hN, hb2⟩ := FU1
  have hne : q ≠ q + 1 := by omega
  have hne2 : q + 1 ≠ q := by omega
  obtain ⟨w', k1, k2, k3⟩ := e_removeAt_L (fun w2 => m_X2_removeAt_j54 q w2) hR hb (l.length - (k + 1)) (N + 1) (k + 1) w (by omega) (by omega) (by omega) h.1
  have hs : w' q 1 = nI l.length := by rw [k3 q hne]; exact h.1
  refine ⟨wset w' q 1 (nI (l.length - 1)), ?_, ⟨?_, ?_⟩, ?_⟩
  · rw [m_X2_removeAt, if_neg (nI_pos (by omega)), h.1, if_pos (by rw [z_lt (by omega) (by omega)]; exact hk), lt_eq, nI_add, hN, k1, m_X2_removeAt_j54, lt_eq, hs, z_sub (by omega)]
  · rw [wset_same, upd_s, List.length_eraseIdx_of_lt hk]
  · intro i x hx
    rw [wset_ne hne2, k2 i]
    rw [List.getElem?_eraseIdx] at hx
    by_cases c : i < k
    · rw [if_pos c] at hx
      rw [if_neg (by omega)]
      exact h.2 i x hx
    · rw [if_neg c] at hx
      have hi : i + 1 < l.length := (List.getElem?_eq_some_iff.mp hx).1
      rw [if_pos (by omega)]
      exact h.2 (i + 1) x hx
  · intro a h1 h2
    rw [wset_ne h1, k3 a h2]
/-- the first content that is served, or the first of all -/
def fsq (P : Nat → Nat) (l : List Nat) (i : Nat) : Bool := decide (l.getD i 0 % 100 ≤ P (l.getD i 0 / 100))
def fsv (P : Nat → Nat) (l : List Nat) : Nat := if fa_first (fsq P l) l.length < l.length then fa_first (fsq P l) l.length else 0
theorem fsv_lt {P : Nat → Nat} {l : List Nat} (h : 0 < l.length) : fsv P l < l.length := by
  unfold fsv
  split <;> assumption
theorem e_firstServed_L {q : Nat} {w : Wd} {l : List Nat} (h : RLn (w q 1) (w (q + 1)) l) (hR : l.length ≤ lroom q) (hb : lroom q < 1000) (hv : ∀ u ∈ l, valU u) {P : Nat → Nat} (hP : RepP w P) (hPb : ∀ o, P o ≤ 24) : ∀ (d n k : Nat), k + d = l.length → d < n → (∀ i, i < k → fsq P l i = false) → m_X3_firstServed_L2 q w n (nI k) = some (nI (fsv P l)) := by
  have hle := fa_first_le (fsq P l) l.length
  have hno := fa_first_no (fsq P l) l.length
  have hyes := fa_first_yes (fsq P l) l.length
  unfold fsv
  generalize fa_first (fsq P l) l.length = C at hle hno hyes ⊢
  intro d
  induction d with
  | zero =>
    intro n k hk hn hp
    obtain ⟨n, rfl⟩ : ∃ m, n = m + 1 := ⟨n - 1, by omega⟩
    have hC : ¬ C < l.length := fun c => by
      have := hp C (by omega)
      rw [hyes c] at this
      cases this
    rw [m_X3_firstServed_L2, e_len h, b_b, if_pos (by rw [z_le (by omega) (by omega)]; omega), if_neg hC]
  | succ d ih =>
    intro n k hk hn hp
    obtain ⟨n, rfl⟩ : ∃ m, n = m + 1 := ⟨n - 1, by omega⟩
    have hlt : k < l.length := by omega
    obtain ⟨o, v, e, ho, h1, h2⟩ := hv (l[k]) (List.getElem_mem hlt)
    have hPo := hPb o
    have hq : fsq P l k = decide (v ≤ P o) := by
      unfold fsq
      rw [List.getD_eq_getElem?_getD, List.getElem?_eq_getElem hlt, Option.getD_some, e, show (100 * o + v) % 100 = v by omega, show (100 * o + v) / 100 = o by omega]
    rw [m_X3_firstServed_L2, e_len h, b_b, if_neg (by rw [z_le (by omega) (by omega)]; omega), e_at h hR hb hlt, b_b, e, e_versionOf ho (by omega), b_b, e_originOf ho (by omega), b_b, e_prefixFound hP ho, b_b]
    by_cases c : v ≤ P o
    · rw [if_neg (by rw [z_lt (by omega) (by omega)]; omega)]
      have hqt : fsq P l k = true := by rw [hq]; simpa using c
      have hC : C = k := by
        rcases Nat.lt_trichotomy C k with z | z | z
        · have := hp C z
          rw [hyes (by omega)] at this
          cases this
        · exact z
        · rw [hno k z] at hqt
          cases hqt
      rw [if_pos (by omega), hC]
    · rw [if_pos (by rw [z_lt (by omega) (by omega)]; omega), nI_add]
      have hqf : fsq P l k = false := by rw [hq]; simpa using c
      exact ih n (k + 1) (by omega) (by omega) (fun i hi => by
        by_cases z : i = k
        · rw [z]; exact hqf
        · exact hp i (by omega))
theorem e_firstServed {q : Nat} {w : Wd} {l : List Nat} (h : RLn (w q 1) (w (q + 1)) l) (hR : l.length ≤ lroom q) (hb : lroom q < 1000) (hv : ∀ u ∈ l, valU u) {P : Nat → Nat} (hP : RepP w P) (hPb : ∀ o, P o ≤ 24) : m_X3_firstServed q w = some (nI (fsv P l)) := by
  have := FUb
  exact e_firstServed_L h hR hb hv hP hPb l.length FU 0 (by omega) (by omega) (fun i hi => by omega)
/-- one more content -/
def addLi (T : TT) (i u : Nat) : TT := ts_li T (va_up (tt_li T) i (tt_li T i ++ [u]))
def evict (T : TT) (p : Nat) : TT := ts_nu (ts_li T (va_up (tt_li T) p ((tt_li T p).eraseIdx (fsv (pfx T p) (tt_li T p))))) (va_up (tt_nu T) 6 (tt_nu T 6 + 1))
def keep (T : TT) (p u : Nat) : TT := if p = 0 ∨ (tt_li T p).length + 1 ≤ tt_nu T 2 then addLi T p u else evict (addLi T p u) p
theorem e_keep {T : TT} {w : Wd} (h : RepC 0 T w) (I : InvB T) {p u : Nat} (hp : p < tt_nu T 0) (hlen : (tt_li T p).length < lroom (2 * p)) (hv : ∀ x ∈ tt_li T p, valU x) (hu : valU u) : ∃ w', m_X3_keepContent (nI p) (nI u) w = some w' ∧ RepC 0 (keep T p u) w' ∧ Fr w w' := by
  have hnp := it_np I
  have hme := I.2.2.1
  have hlb := lrb p (by omega)
  obtain ⟨w1, a1, a2, a3⟩ := e_app (rc_li h (by omega)) hlen hlb u
  have h1 : RepC 0 (addLi T p u) w1 := rc_set_li h (by omega) a2 a3
  have hl : (tt_li T p ++ [u]).length = (tt_li T p).length + 1 := by simp
  rw [m_X3_keepContent, e_contentsOf h I hp, b_b, a1, b_b]
  unfold keep
  by_cases c : p = 0
  · subst c
    rw [if_pos (by rfl), if_pos (Or.inl rfl)]
    exact ⟨w1, rfl, h1, Fr.li (by omega) a3⟩
  dsimp only
  rw [if_neg (by rw [z_eq0 (by omega)]; exact c), e_len a2, b_b]
  simp only [rc_nu h1 (show 2 < 7 by omega), hl]
  show ∃ w', (if nI ((tt_li T p).length + 1) ≤ nI (tt_nu T 2) then _ else _) = some w' ∧ _
  by_cases d : (tt_li T p).length + 1 ≤ tt_nu T 2
  · rw [if_pos (by rw [z_le (by omega) (by omega)]; exact d), if_pos (Or.inr d)]
    exact ⟨w1, rfl, h1, Fr.li (by omega) a3⟩
  rw [if_neg (by rw [z_le (by omega) (by omega)]; exact d), if_neg (fun q => q.elim c d)]
  obtain ⟨w2, b1, b2, b3⟩ := e_findServed h1 I (p := p) (by omega)
  have h2 := rc_474 h1 b3
  have hl2 := rc_li h2 (i := p) (by omega)
  have ev : tt_li (addLi T p u) p = tt_li T p ++ [u] := up_s _ _ _
  rw [ev] at hl2
  have hv2 : ∀ x ∈ tt_li T p ++ [u], valU x := by
    intro x hx
    rcases List.mem_append.mp hx with z | z
    · exact hv x z
    · rw [List.mem_singleton.mp z]; exact hu
  have hf := fsv_lt (P := pfx (addLi T p u) p) (l := tt_li T p ++ [u]) (by omega)
  obtain ⟨w3, c1, c2, c3⟩ := e_removeAt hl2 (by omega) hlb hf
  have h3 := rc_set_li h2 (by omega) c2 c3
  rw [← ev] at h3
  have h4 := rc_set_nu h3 6 (tt_nu (addLi T p u) 6 + 1)
  refine ⟨_, ?_, h4, ?_⟩
  · rw [b1, b_b, e_firstServed hl2 (by omega) hlb hv2 b2 (pfx_le _ _), b_b, c1, b_b, lt_eq, rc_nu h3 (by omega), nI_add]
  · exact ((Fr.li (by omega) a3).tr (Fr.of474 b3)).tr ((Fr.li (by omega) c3).tr (Fr.set (by omega)))
def enq (T : TT) (i u : Nat) : TT := if (tt_li T i).length < 12 then addLi T i u else ts_nu T (va_up (tt_nu T) 4 (tt_nu T 4 + 1))
theorem e_enq {T : TT} {w : Wd} (h : RepC 0 T w) {i u : Nat} (hi : i < 24) (h8 : 8 ≤ i) (n8 : i ≠ 8) (n16 : i ≠ 16) (hl : (tt_li T i).length ≤ 12) : ∃ w', m_X3_enqueue (2 * i) (nI u) w = some w' ∧ RepC 0 (enq T i u) w' ∧ Fr w w' := by
  have hr := lrq i hi h8 n8 n16
  unfold enq
  rw [m_X3_enqueue]
  by_cases c : (tt_li T i).length < 12
  · obtain ⟨w1, a1, a2, a3⟩ := e_app (rc_li h hi) (by omega) (by omega) u
    rw [if_pos c, a1, b_b]
    dsimp only
    rw [if_pos (by decide)]
    exact ⟨w1, rfl, rc_set_li h hi a2 a3, Fr.li hi a3⟩
  · rw [if_neg c, e_app_full (rc_li h hi) (by omega) (by omega), b_b]
    dsimp only
    rw [if_neg (by decide), lt_eq]
    show ∃ w', some (wset w 50 4 (w 50 4 + nI 1)) = some w' ∧ _
    rw [rc_nu h (by omega), nI_add]
    exact ⟨_, rfl, rc_set_nu h _ _, Fr.set (by omega)⟩
theorem enq_len {T : TT} {i u : Nat} (h : ∀ j, 8 ≤ j → j < 24 → (tt_li T j).length ≤ 12) : ∀ j, 8 ≤ j → j < 24 → (tt_li (enq T i u) j).length ≤ 12 := by
  intro j h1 h2
  unfold enq
  by_cases c : (tt_li T i).length < 12
  · rw [if_pos c]
    show (va_up (tt_li T) i (tt_li T i ++ [u]) j).length ≤ 12
    by_cases e : j = i
    · subst e; rw [up_s, List.length_append]; exact c
    · rw [up_n e]; exact h j h1 h2
  · rw [if_neg c]; exact h j h1 h2
theorem enq_B {T : TT} {i u : Nat} (I : InvB T) : InvB (enq T i u) := by
  unfold enq
  split
  · exact I
  · exact ⟨I.1, I.2.1, I.2.2.1, I.2.2.2⟩
theorem enq_nu {T : TT} {i u j : Nat} (hj : j ≠ 4) : tt_nu (enq T i u) j = tt_nu T j := by
  unfold enq
  split
  · rfl
  · exact up_n hj
theorem enq_pa {T : TT} {i u : Nat} : tt_pa (enq T i u) = tt_pa T := by
  unfold enq
  split <;> rfl
/-- from whom an update comes: a proxy, or 8 for nobody -/
def frC (fr : Nat) : Int32 := if fr < 8 then nI fr else (-1)
theorem frC_eq {c fr : Nat} (hc : c < 8) : (nI c = frC fr) = (c = fr) := by
  unfold frC
  by_cases h : fr < 8
  · rw [if_pos h, z_eq (by omega) (by omega)]
  · rw [if_neg h]
    apply propext
    constructor
    · intro e
      have e2 := congrArg Int32.toInt e
      rw [nI_toInt (by omega), show (-1 : Int32).toInt = -1 from by decide] at e2
      omega
    · intro e; omega
theorem frC_m1 {fr : Nat} : (frC fr = -1) = (8 ≤ fr) := by
  unfold frC
  apply propext
  by_cases h : fr < 8
  · rw [if_pos h]
    constructor
    · intro e
      have e2 := congrArg Int32.toInt e
      rw [nI_toInt (by omega), show (-1 : Int32).toInt = -1 from by decide] at e2
      omega
    · intro e; omega
  · rw [if_neg h]
    exact ⟨fun _ => by omega, fun _ => rfl⟩
def pdStep (T : TT) (p fr u c : Nat) : TT := if c ≠ fr ∧ tt_pa T c = p then enq T (16 + c) u else T
def pdown (p fr u : Nat) : Nat → Nat → TT → TT
  | 0, _, T => T
  | n + 1, c, T => pdown p fr u n (c + 1) (pdStep T p fr u c)
def passOn (T : TT) (p fr u : Nat) : TT := pdown p fr u (tt_nu T 0 - 1) 1 (if p ≠ 0 ∧ tt_pa T p ≠ fr then enq T (8 + p) u else T)
theorem e_isChildOf {T : TT} {w : Wd} (h : RepC 0 T w) (I : InvB T) {c p : Nat} (h1 : 1 ≤ c) (hc : c < tt_nu T 0) (hp : p < 8) : m_X5_isChildOf (nI c) (nI p) w = some (nI (if tt_pa T c = p then 1 else 0)) := by
  have hnp := it_np I
  have hpa := I.2.2.2.1 c (by omega)
  rw [m_X5_isChildOf, e_hasChild h I h1 hc, b_b, if_neg (by decide), e_parentOf h (by omega), b_b]
  by_cases e : tt_pa T c = p
  · rw [if_pos e, if_neg (by rw [e]; simp)]
  · rw [if_neg e, if_pos (by rw [z_eq (by omega) (by omega)]; exact e)]
theorem e_passOn_L {p fr u : Nat} (hp : p < 8) : ∀ (d n c : Nat) (T : TT) (w : Wd), c + d = tt_nu T 0 → d < n → 1 ≤ c → RepC 0 T w → InvB T → (∀ j, 8 ≤ j → j < 24 → (tt_li T j).length ≤ 12) → ∃ w', m_X3_passOn_L33 (nI p) (frC fr) (nI u) n (nI c) w = some w' ∧ RepC 0 (pdown p fr u d c T) w' ∧ Fr w w' := by
  intro d
  induction d with
  | zero =>
    intro n c T w hc hn h1 h I hq
    have hnp := it_np I
    obtain ⟨n, rfl⟩ : ∃ m, n = m + 1 := ⟨n - 1, by omega⟩
    exact ⟨w, by rw [m_X3_passOn_L33, rc_nu h (by omega), if_pos (by rw [z_le (by omega) (by omega)]; omega)], h, Fr.rf⟩
  | succ d ih =>
    intro n c T w hc hn h1 h I hq
    have hnp := it_np I
    obtain ⟨n, rfl⟩ : ∃ m, n = m + 1 := ⟨n - 1, by omega⟩
    rw [m_X3_passOn_L33, rc_nu h (by omega), if_neg (by rw [z_le (by omega) (by omega)]; omega)]
    simp only [m_X3_passOn_j79, nI_add, pdown]
    by_cases e : c = fr
    · rw [if_pos (by rw [frC_eq (by omega)]; exact e), show pdStep T p fr u c = T from if_neg (fun q => q.1 e)]
      exact ih n (c + 1) T w (by omega) (by omega) (by omega) h I hq
    rw [if_neg (by rw [frC_eq (by omega)]; exact e), e_isChildOf h I h1 (by omega) hp, b_b]
    by_cases e2 : tt_pa T c = p
    · rw [if_pos e2, if_neg (by decide), e_queueDown h I h1 (by omega), b_b, show pdStep T p fr u c = enq T (16 + c) u from if_pos ⟨e, e2⟩]
      obtain ⟨w1, a1, a2, a3⟩ := e_enq (u := u) h (i := 16 + c) (by omega) (by omega) (by omega) (by omega) (hq _ (by omega) (by omega))
      rw [a1, b_b]
      obtain ⟨w', r1, r2, r3⟩ := ih n (c + 1) _ w1 (by rw [enq_nu (by omega)]; omega) (by omega) (by omega) a2 (enq_B I) (enq_len hq)
      exact ⟨w', r1, r2, a3.tr r3⟩
    · rw [if_neg e2, if_pos (by decide), show pdStep T p fr u c = T from if_neg (fun q => e2 q.2)]
      exact ih n (c + 1) T w (by omega) (by omega) (by omega) h I hq
theorem e_passOn {T : TT} {w : Wd} (h : RepC 0 T w) (I : InvB T) {p fr u : Nat} (hp : p < tt_nu T 0) (hq : ∀ j, 8 ≤ j → j < 24 → (tt_li T j).length ≤ 12) : ∃ w', m_X3_passOn (nI p) (frC fr) (nI u) w = some w' ∧ RepC 0 (passOn T p fr u) w' ∧ Fr w w' := by
  have hnp := it_np I
  have hFU := FUb
  rw [m_X3_passOn]
  simp only [m_X3_passOn_j30]
  unfold passOn
  by_cases c : p = 0
  · subst c
    rw [if_pos (by rfl), if_neg (fun q => q.1 rfl)]
    exact e_passOn_L (by omega) _ FU 1 T w (by omega) (by omega) (by omega) h I hq
  have hpa := I.2.2.2.1 p (by omega)
  rw [if_neg (by rw [z_eq0 (by omega)]; exact c), e_parentOf h (by omega), b_b]
  by_cases e : tt_pa T p = fr
  · rw [if_pos (by rw [frC_eq (by omega)]; exact e), if_neg (fun q => q.2 e)]
    exact e_passOn_L (by omega) _ FU 1 T w (by omega) (by omega) (by omega) h I hq
  · rw [if_neg (by rw [frC_eq (by omega)]; exact e), e_queueUp h I (by omega) hp, b_b, if_pos ⟨c, e⟩]
    obtain ⟨w1, a1, a2, a3⟩ := e_enq (u := u) h (i := 8 + p) (by omega) (by omega) (by omega) (by omega) (hq _ (by omega) (by omega))
    rw [a1, b_b]
    obtain ⟨w', r1, r2, r3⟩ := e_passOn_L (p := p) (fr := fr) (u := u) (by omega) (tt_nu T 0 - 1) FU 1 _ w1 (by rw [enq_nu (by omega)]; omega) (by omega) (by omega) a2 (enq_B I) (enq_len hq)
    exact ⟨w', r1, r2, a3.tr r3⟩
/-- the number of ranges of exceptions -/
def gc (f : Nat → Bool) : Nat := fb_ct (fun i => gapEnd f (i + 1)) 24
theorem gc_le (f : Nat → Bool) : gc f ≤ 24 := fb_ct_le _ 24
def rgW (T : TT) (p o v e : Nat) : Nat := gc (if e = o then va_up (tt_kn T (4 * p + e)) v true else tt_kn T (4 * p + e))
def rgs (T : TT) (p o v : Nat) : Nat := rgW T p o v 0 + rgW T p o v 1 + rgW T p o v 2 + rgW T p o v 3
theorem rgW_le (T : TT) (p o v e : Nat) : rgW T p o v e ≤ 24 := gc_le _
theorem e_rangesWith {T : TT} {w : Wd} (h : RepC 0 T w) (hk : ∀ j, j < 32 → tt_kn T j 25 = false) {p o v : Nat} (hp : p < 8) (ho : o < 4) (h1 : 1 ≤ v) (hv : v ≤ 24) : m_X5_rangesWith (nI p) (nI o) (nI v) w = some (nI (rgs T p o v)) := by
  obtain ⟨N, hN, -⟩ := FU5
  have st : ∀ n a e, e < 4 → m_X5_rangesWith_L6 (nI p) (nI o) (nI v) w (n + 1) (nI a) (nI e) = m_X5_rangesWith_L6 (nI p) (nI o) (nI v) w n (nI (a + rgW T p o v e)) (nI (e + 1)) := by
    intro n a e he
    have h25 := hk (4 * p + e) (by omega)
    rw [m_X5_rangesWith_L6, if_neg (by rw [z_le (by omega) (by omega)]; omega), e_knownOf h hp he, b_b]
    simp only [m_X5_rangesWith_j40]
    unfold rgW
    by_cases c : e = o
    · subst c
      rw [if_neg (by simp), e_with _ h1 hv, b_b, e_rangesIn _ (by rw [up_n (by omega)]; exact h25), b_b, lt_eq, nI_add, nI_add, if_pos rfl]
      rfl
    · rw [if_pos (by rw [z_eq (by omega) (by omega)]; exact c), e_rangesIn _ h25, b_b, lt_eq, nI_add, nI_add, if_neg c]
      rfl
  have e4 : ∀ a, m_X5_rangesWith_L6 (nI p) (nI o) (nI v) w (N + 1) (nI a) (nI 4) = some (nI a) := fun a => by rw [m_X5_rangesWith_L6, if_pos (by decide)]
  rw [m_X5_rangesWith, hN, st (N + 4) 0 0 (by omega), st (N + 3) _ 1 (by omega), st (N + 2) _ 2 (by omega), st (N + 1) _ 3 (by omega), e4, Nat.zero_add]
  rfl
def learn (T : TT) (p fr u : Nat) : TT := passOn (keep (addKn T p (u / 100) (u % 100)) p u) p fr u
/-- what becomes of an update that arrives: 0 it was known, 1 it was learned, 2 it was refused -/
def arrTold (T : TT) (p fr u : Nat) : Nat := if tt_kn T (4 * p + u / 100) (u % 100) then 0 else if p ≠ 0 ∧ fr < 8 ∧ tt_nu T 1 < rgs T p (u / 100) (u % 100) then 2 else 1
def arrive (T : TT) (p fr u : Nat) : TT := if arrTold T p fr u = 0 then T else if arrTold T p fr u = 2 then ts_nu T (va_up (tt_nu T) 3 (tt_nu T 3 + 1)) else learn T p fr u
