/-! ===== what a proxy serves: the greatest prefixes that are closed ===== -/
/-- prefixes whose versions are all known, with all their causes -/
def Clo (T : TT) (p : Nat) (Q : Nat → Nat) : Prop := ∀ o v, o < 4 → 1 ≤ v → v ≤ Q o → tt_kn T (4 * p + o) v = true ∧ hasC T Q o v = true
theorem hasC_mono {T : TT} {P Q : Nat → Nat} {o v : Nat} (h : ∀ j, j < 4 → Q j ≤ P j) (hc : hasC T Q o v = true) : hasC T P o v = true := by
  simp only [hasC, decide_eq_true_eq] at hc ⊢
  have h0 := h 0 (by omega)
  have h1 := h 1 (by omega)
  have h2 := h 2 (by omega)
  have h3 := h 3 (by omega)
  omega
theorem clo_passO {T : TT} {p : Nat} {P Q : Nat → Nat} {o : Nat} (hQ : Clo T p Q) (h : ∀ j, j < 4 → Q j ≤ P j) : ∀ j, j < 4 → Q j ≤ passO T P o j := by
  intro j hj
  unfold passO
  by_cases e : j = o
  · subst e
    rw [up_s]
    unfold cutv
    refine Nat.not_lt.mp fun q => ?_
    have hy : (!hasC T P j (fa_first (fun i => !hasC T P j (i + 1)) (P j) + 1)) = true := fa_first_yes (fun i => !hasC T P j (i + 1)) (P j) (Nat.lt_of_lt_of_le q (h j hj))
    have hc := hasC_mono h (hQ j (fa_first (fun i => !hasC T P j (i + 1)) (P j) + 1) hj (by omega) (by omega)).2
    rw [hc] at hy
    exact absurd hy (by decide)
  · rw [up_n e]
    exact h j hj
theorem clo_pass {T : TT} {p : Nat} {P Q : Nat → Nat} (hQ : Clo T p Q) (h : ∀ j, j < 4 → Q j ≤ P j) : ∀ j, j < 4 → Q j ≤ pass T P j := clo_passO hQ (clo_passO hQ (clo_passO hQ (clo_passO hQ h)))
theorem clo_itp {T : TT} {p : Nat} {Q : Nat → Nat} (hQ : Clo T p Q) : ∀ (n : Nat) (P : Nat → Nat), (∀ j, j < 4 → Q j ≤ P j) → ∀ j, j < 4 → Q j ≤ itp T n P j
  | 0, _, h => h
  | n + 1, P, h => clo_itp hQ n (pass T P) (clo_pass hQ h)
theorem pass_out {T : TT} {P : Nat → Nat} {j : Nat} (hj : 4 ≤ j) : pass T P j = P j := by
  unfold pass passO
  rw [up_n (by omega), up_n (by omega), up_n (by omega), up_n (by omega)]
theorem pass_sum {T : TT} {P : Nat → Nat} (h : pass T P ≠ P) : sum4 (pass T P) < sum4 P := by
  have l0 := pass_le T P 0
  have l1 := pass_le T P 1
  have l2 := pass_le T P 2
  have l3 := pass_le T P 3
  by_cases c : sum4 (pass T P) < sum4 P
  · exact c
  · exfalso
    apply h
    funext j
    unfold sum4 at c
    by_cases hj : j < 4
    · rcases (show j = 0 ∨ j = 1 ∨ j = 2 ∨ j = 3 by omega) with rfl | rfl | rfl | rfl <;> omega
    · exact pass_out (by omega)
theorem itp_end (T : TT) : ∀ (m : Nat) (P : Nat → Nat), sum4 P < m → pass T (itp T m P) = itp T m P := by
  intro m
  induction m with
  | zero => intro P h; omega
  | succ m ih =>
    intro P h
    by_cases e : pass T P = P
    · rw [itp_fix T e (m + 1)]; exact e
    · have := pass_sum e
      rw [itp]
      exact ih _ (by omega)
theorem pfx_fix (T : TT) (p : Nat) : pass T (pfx T p) = pfx T p := by
  have i0 := ini_le T p 0
  have i1 := ini_le T p 1
  have i2 := ini_le T p 2
  have i3 := ini_le T p 3
  exact itp_end T 97 _ (by unfold sum4; omega)
theorem fix_cut {T : TT} {P : Nat → Nat} (h : pass T P = P) {o : Nat} (ho : o < 4) : cutv T P o = P o := by
  have A0 := passO_le T P 0
  have A1 := passO_le T (passO T P 0) 1
  have A2 := passO_le T (passO T (passO T P 0) 1) 2
  have A3 : ∀ j, pass T P j ≤ passO T (passO T (passO T P 0) 1) 2 j := passO_le T _ 3
  have hj : ∀ j, pass T P j = P j := fun j => by rw [h]
  have e0 : passO T P 0 = P := by
    funext j
    have := hj j; have := A0 j; have := A1 j; have := A2 j; have := A3 j
    omega
  have e1 : passO T P 1 = P := by
    rw [e0] at A1 A2 A3
    funext j
    have := hj j; have := A1 j; have := A2 j; have := A3 j
    omega
  have e2 : passO T P 2 = P := by
    rw [e0, e1] at A2 A3
    funext j
    have := hj j; have := A2 j; have := A3 j
    omega
  have e3 : passO T P 3 = P := by
    have : pass T P = passO T P 3 := by
      show passO T (passO T (passO T (passO T P 0) 1) 2) 3 = _
      rw [e0, e1, e2]
    rw [← this]; exact h
  have k : ∀ {i}, passO T P i = P → cutv T P i = P i := by
    intro i hi
    have := congrFun hi i
    unfold passO at this
    rwa [up_s] at this
  rcases (show o = 0 ∨ o = 1 ∨ o = 2 ∨ o = 3 by omega) with rfl | rfl | rfl | rfl
  · exact k e0
  · exact k e1
  · exact k e2
  · exact k e3
theorem pfx_clo (T : TT) (p : Nat) : Clo T p (pfx T p) := by
  intro o v ho h1 hv
  refine ⟨pre_in h1 (Nat.le_trans hv (pfx_ini T p o)), ?_⟩
  have hc := fix_cut (pfx_fix T p) ho
  have hno := fa_first_no (fun i => !hasC T (pfx T p) o (i + 1)) (pfx T p o) (v - 1) (by
    show v - 1 < cutv T (pfx T p) o
    omega)
  have hno2 : (!hasC T (pfx T p) o (v - 1 + 1)) = false := by simpa using hno
  rw [show v - 1 + 1 = v by omega] at hno2
  simpa using hno2
theorem clo_ini {T : TT} {p : Nat} {Q : Nat → Nat} (hQ : Clo T p Q) (h24 : ∀ o, o < 4 → Q o ≤ 24) : ∀ o, o < 4 → Q o ≤ ini T p o := by
  intro o ho
  refine Nat.not_lt.mp fun q => ?_
  have hl := h24 o ho
  have hf := pre_out (f := tt_kn T (4 * p + o)) (by show ini T p o < 24; omega)
  have ht := (hQ o (pre (tt_kn T (4 * p + o)) + 1) ho (by omega) q).1
  rw [hf] at ht
  exact absurd ht (by decide)
theorem clo_pfx {T : TT} {p : Nat} {Q : Nat → Nat} (hQ : Clo T p Q) (h24 : ∀ o, o < 4 → Q o ≤ 24) : ∀ o, o < 4 → Q o ≤ pfx T p o := clo_itp hQ 97 _ (clo_ini hQ h24)
/-! the law's own way: from 12 each, update by update, until a pass cuts nothing -/
def okL (T : TT) (p : Nat) (P : Nat → Nat) (u : Nat) : Bool := decide (P (u / 12) < u % 12 + 1) || (tt_kn T (4 * p + u / 12) (u % 12 + 1) && hasC T P (u / 12) (u % 12 + 1))
def stL (T : TT) (p u : Nat) (P : Nat → Nat) : Nat → Nat := if okL T p P u = true then P else va_up P (u / 12) (u % 12)
def lps (T : TT) (p : Nat) : Nat → Nat → (Nat → Nat) → Nat → Nat × (Nat → Nat)
  | 0, _, P, c => (c, P)
  | d + 1, u, P, c => lps T p d (u + 1) (stL T p u P) (c + if okL T p P u = true then 1 else 0)
theorem stL_le (T : TT) (p u : Nat) (P : Nat → Nat) : ∀ j, stL T p u P j ≤ P j := by
  intro j
  unfold stL
  by_cases c : okL T p P u = true
  · rw [if_pos c]; exact Nat.le_refl _
  · rw [if_neg c]
    by_cases e : j = u / 12
    · subst e
      rw [up_s]
      unfold okL at c
      simp only [Bool.or_eq_true, decide_eq_true_eq] at c
      omega
    · rw [up_n e]; exact Nat.le_refl _
theorem stL_lt {T : TT} {p u : Nat} {P : Nat → Nat} (c : ¬ okL T p P u = true) : stL T p u P (u / 12) < P (u / 12) := by
  unfold stL
  rw [if_neg c, up_s]
  unfold okL at c
  simp only [Bool.or_eq_true, decide_eq_true_eq] at c
  omega
theorem stL_clo {T : TT} {p u : Nat} {P Q : Nat → Nat} (hu : u < 48) (hQ : Clo T p Q) (h : ∀ j, j < 4 → Q j ≤ P j) : ∀ j, j < 4 → Q j ≤ stL T p u P j := by
  intro j hj
  unfold stL
  by_cases c : okL T p P u = true
  · rw [if_pos c]; exact h j hj
  · rw [if_neg c]
    by_cases e : j = u / 12
    · subst e
      rw [up_s]
      refine Nat.not_lt.mp fun q => c ?_
      have k := hQ (u / 12) (u % 12 + 1) hj (by omega) q
      unfold okL
      rw [k.1, hasC_mono h k.2]
      simp
    · rw [up_n e]; exact h j hj
theorem lps_le (T : TT) (p : Nat) : ∀ (d u : Nat) (P : Nat → Nat) (c : Nat), (∀ j, (lps T p d u P c).2 j ≤ P j) ∧ (lps T p d u P c).1 ≤ c + d ∧ ((lps T p d u P c).1 = c + d → (lps T p d u P c).2 = P ∧ ∀ i, u ≤ i → i < u + d → okL T p P i = true) ∧ (u + d ≤ 48 → (lps T p d u P c).1 < c + d → sum4 (lps T p d u P c).2 < sum4 P) := by
  intro d
  induction d with
  | zero => intro u P c; exact ⟨fun j => Nat.le_refl _, Nat.le_refl _, fun _ => ⟨rfl, fun i h1 h2 => by omega⟩, fun _ h => absurd h (Nat.lt_irrefl _)⟩
  | succ d ih =>
    intro u P c
    obtain ⟨a1, a2, a3, a4⟩ := ih (u + 1) (stL T p u P) (c + if okL T p P u = true then 1 else 0)
    rw [lps]
    have hl := stL_le T p u P
    by_cases k : okL T p P u = true
    · have e : stL T p u P = P := if_pos k
      rw [if_pos k, e] at a1 a2 a3 a4 ⊢
      refine ⟨a1, by omega, fun q => ?_, fun h1 h2 => a4 (by omega) (by omega)⟩
      obtain ⟨b1, b2⟩ := a3 (by omega)
      refine ⟨b1, fun i h1 h2 => ?_⟩
      by_cases z : i = u
      · rw [z]; exact k
      · exact b2 i (by omega) (by omega)
    · rw [if_neg k] at a1 a2 a3 a4 ⊢
      refine ⟨fun j => Nat.le_trans (a1 j) (hl j), by omega, fun q => by omega, fun h1 _ => ?_⟩
      have hs := stL_lt k
      have ho : u / 12 < 4 := by omega
      have b0 := a1 0; have b1 := a1 1; have b2 := a1 2; have b3 := a1 3
      have l0 := hl 0; have l1 := hl 1; have l2 := hl 2; have l3 := hl 3
      unfold sum4
      rcases (show u / 12 = 0 ∨ u / 12 = 1 ∨ u / 12 = 2 ∨ u / 12 = 3 by omega) with e | e | e | e <;> rw [e] at hs <;> omega
theorem lps_clo {T : TT} {p : Nat} {Q : Nat → Nat} (hQ : Clo T p Q) : ∀ (d u : Nat) (P : Nat → Nat) (c : Nat), u + d ≤ 48 → (∀ j, j < 4 → Q j ≤ P j) → ∀ j, j < 4 → Q j ≤ (lps T p d u P c).2 j := by
  intro d
  induction d with
  | zero => intro u P c _ h; exact h
  | succ d ih =>
    intro u P c hu h
    rw [lps]
    exact ih _ _ _ (by omega) (stL_clo (by omega) hQ h)
/-- where a pass cuts nothing, the prefixes are the served ones -/
theorem okL_pfx {T : TT} {p : Nat} {P : Nat → Nat} (hp : ∀ j, j < 4 → pfx T p j ≤ P j) (h12 : ∀ j, j < 4 → P j ≤ 12) (hok : ∀ u, u < 48 → okL T p P u = true) : ∀ j, j < 4 → P j = pfx T p j := by
  have hc : Clo T p P := by
    intro o v ho h1 hv
    have := h12 o ho
    have k := hok (12 * o + (v - 1)) (by omega)
    unfold okL at k
    rw [show (12 * o + (v - 1)) / 12 = o by omega, show (12 * o + (v - 1)) % 12 = v - 1 by omega, show v - 1 + 1 = v by omega] at k
    rw [decide_eq_false (by omega), Bool.false_or, Bool.and_eq_true] at k
    exact k
  intro j hj
  have := clo_pfx hc (fun o ho => Nat.le_trans (h12 o ho) (by decide)) j hj
  have := hp j hj
  omega
