/-! ===== the chain of the proxies above one ===== -/
def itN (f : Nat → Nat) : Nat → Nat → Nat
  | 0, a => a
  | i + 1, a => f (itN f i a)
theorem itN_in (f : Nat → Nat) : ∀ (i a : Nat), itN f i (f a) = itN f (i + 1) a
  | 0, _ => rfl
  | i + 1, a => by
    show f (itN f i (f a)) = f (itN f (i + 1) a)
    rw [itN_in f i a]
/-- parents are smaller -/
def paOk (f : Nat → Nat) : Prop := f 0 = 0 ∧ ∀ a, 1 ≤ a → a < 8 → f a < a
theorem paOk.le {f : Nat → Nat} (h : paOk f) {a : Nat} (ha : a < 8) : f a ≤ a := by
  rcases Nat.eq_zero_or_pos a with e | e
  · rw [e, h.1]; exact Nat.le_refl _
  · exact Nat.le_of_lt (h.2 a e ha)
theorem itN_le {f : Nat → Nat} (h : paOk f) {a : Nat} (ha : a < 8) : ∀ i, itN f i a ≤ a := by
  intro i
  induction i with
  | zero => exact Nat.le_refl _
  | succ i ih => exact Nat.le_trans (h.le (by omega)) ih
theorem itN_anti {f : Nat → Nat} (h : paOk f) {a : Nat} (ha : a < 8) : ∀ {i j : Nat}, i ≤ j → itN f j a ≤ itN f i a := by
  intro i j hij
  obtain ⟨d, rfl⟩ : ∃ d, j = i + d := ⟨j - i, by omega⟩
  clear hij
  induction d with
  | zero => exact Nat.le_refl _
  | succ d ih =>
    have := itN_le h ha (i + d)
    show f (itN f (i + d) a) ≤ _
    exact Nat.le_trans (h.le (a := itN f (i + d) a) (by omega)) ih
theorem itN_zero {f : Nat → Nat} (h : f 0 = 0) : ∀ i, itN f i 0 = 0
  | 0 => rfl
  | i + 1 => by show f (itN f i 0) = 0; rw [itN_zero h i, h]
theorem it_paOk {T : TT} (I : InvT T) : paOk (tt_pa T) := I.2.2.2.1
theorem dep_st {T : TT} (h : paOk (tt_pa T)) : ∀ (n m a : Nat), a < 8 → a ≤ n → a ≤ m → dep T n a = dep T m a := by
  intro n
  induction n with
  | zero =>
    intro m a ha h1 h2
    have e : a = 0 := by omega
    subst e
    cases m with
    | zero => rfl
    | succ m => rw [dep, dep, if_pos rfl]
  | succ n ih =>
    intro m a ha h1 h2
    cases m with
    | zero =>
      have e : a = 0 := by omega
      subst e
      rw [dep, dep, if_pos rfl]
    | succ m =>
      rw [dep, dep]
      by_cases c : a = 0
      · rw [if_pos c, if_pos c]
      · have := h.2 a (by omega) ha
        rw [if_neg c, if_neg c, ih m (tt_pa T a) (by omega) (by omega) (by omega)]
theorem dep_step {T : TT} (h : paOk (tt_pa T)) {a : Nat} (h1 : 1 ≤ a) (ha : a < 8) : dep T 8 a = dep T 8 (tt_pa T a) + 1 := by
  have := h.2 a h1 ha
  rw [dep_st h 8 7 (tt_pa T a) (by omega) (by omega) (by omega)]
  show (if a = 0 then 0 else dep T 7 (tt_pa T a) + 1) = _
  rw [if_neg (by omega)]
theorem dep_z (T : TT) : dep T 8 0 = 0 := by
  show (if 0 = 0 then 0 else _) = 0
  rw [if_pos rfl]
theorem dep_le {T : TT} (h : paOk (tt_pa T)) : ∀ a, a < 8 → dep T 8 a ≤ a := by
  intro a
  induction a using Nat.strongRecOn with
  | ind a ih =>
    intro ha
    rcases Nat.eq_zero_or_pos a with e | e
    · rw [e, dep_z]; exact Nat.le_refl _
    · have := h.2 a e ha
      have := ih (tt_pa T a) this (by omega)
      rw [dep_step h e ha]
      omega
theorem dep_it {T : TT} (h : paOk (tt_pa T)) {p : Nat} (hp : p < 8) : ∀ i, i ≤ dep T 8 p → dep T 8 (itN (tt_pa T) i p) = dep T 8 p - i := by
  intro i
  induction i with
  | zero => intro _; rfl
  | succ i ih =>
    intro hi
    have e := ih (by omega)
    have hl := itN_le h hp i
    have hpos : 1 ≤ itN (tt_pa T) i p := by
      rcases Nat.eq_zero_or_pos (itN (tt_pa T) i p) with z | z
      · rw [z, dep_z] at e; omega
      · exact z
    have := dep_step h hpos (by omega)
    show dep T 8 (tt_pa T (itN (tt_pa T) i p)) = _
    omega
theorem it_pos {T : TT} (h : paOk (tt_pa T)) {p i : Nat} (hp : p < 8) (hi : i < dep T 8 p) : 1 ≤ itN (tt_pa T) i p := by
  have e := dep_it h hp i (by omega)
  rcases Nat.eq_zero_or_pos (itN (tt_pa T) i p) with z | z
  · rw [z, dep_z] at e; omega
  · exact z
theorem it_end {T : TT} (h : paOk (tt_pa T)) {p : Nat} (hp : p < 8) : itN (tt_pa T) (dep T 8 p) p = 0 := by
  have e := dep_it h hp (dep T 8 p) (Nat.le_refl _)
  have hl := itN_le h hp (dep T 8 p)
  rcases Nat.eq_zero_or_pos (itN (tt_pa T) (dep T 8 p) p) with z | z
  · exact z
  · have := dep_step h z (by omega)
    omega
theorem abv_it {T : TT} {k : Nat} : ∀ (n a : Nat), abv T k n a = true → ∃ j, 1 ≤ j ∧ itN (tt_pa T) j a = k := by
  intro n
  induction n with
  | zero => intro a h; cases h
  | succ n ih =>
    intro a h
    rw [abv] at h
    by_cases c : a = 0
    · rw [if_pos c] at h; cases h
    · rw [if_neg c] at h
      by_cases d : tt_pa T a = k
      · exact ⟨1, Nat.le_refl _, d⟩
      · rw [if_neg d] at h
        obtain ⟨j, j1, je⟩ := ih _ h
        exact ⟨j + 1, by omega, by rw [← itN_in]; exact je⟩
theorem it_abv {T : TT} (h0 : tt_pa T 0 = 0) {k : Nat} (hk : 1 ≤ k) : ∀ (n j a : Nat), 1 ≤ j → j ≤ n → itN (tt_pa T) j a = k → abv T k n a = true := by
  intro n
  induction n with
  | zero => intro j a j1 jn _; omega
  | succ n ih =>
    intro j a j1 jn e
    have ha : a ≠ 0 := by
      intro z
      rw [z, itN_zero h0] at e
      omega
    rw [abv, if_neg ha]
    by_cases d : tt_pa T a = k
    · rw [if_pos d]
    · rw [if_neg d]
      obtain ⟨j, rfl⟩ : ∃ i, j = i + 1 := ⟨j - 1, by omega⟩
      rw [← itN_in] at e
      have : j ≠ 0 := by
        intro z
        rw [z] at e
        exact d e
      exact ih j _ (by omega) (by omega) e
theorem abv_c {T T' : TT} (h : tt_pa T' = tt_pa T) (k : Nat) : ∀ n a, abv T' k n a = abv T k n a := by
  intro n
  induction n with
  | zero => intro a; rfl
  | succ n ih => intro a; rw [abv, abv, h, ih]
def fillS (k : Nat) (s : AS) : AS := (s.1 + (fillL k (tt_pa s.2.2.2 k) (gapO s.2.2.2 k 4) s.2.2.2).1, s.2.1 + (fillL k (tt_pa s.2.2.2 k) (gapO s.2.2.2 k 4) s.2.2.2).2.1, (fillL k (tt_pa s.2.2.2 k) (gapO s.2.2.2 k 4) s.2.2.2).1, (fillL k (tt_pa s.2.2.2 k) (gapO s.2.2.2 k 4) s.2.2.2).2.2)
/-- the proxies above a, from the root down, then a itself -/
def askC (f : Nat → Nat) : Nat → Nat → AS → AS
  | 0, _, s => s
  | n + 1, a, s => if a = 0 then s else fillS a (askC f n (f a) s)
theorem askC_st {f : Nat → Nat} (h : paOk f) (s : AS) : ∀ (n m a : Nat), a < 8 → a ≤ n → a ≤ m → askC f n a s = askC f m a s := by
  intro n
  induction n with
  | zero =>
    intro m a ha h1 h2
    have e : a = 0 := by omega
    subst e
    cases m with
    | zero => rfl
    | succ m => rw [askC, askC, if_pos rfl]
  | succ n ih =>
    intro m a ha h1 h2
    cases m with
    | zero =>
      have e : a = 0 := by omega
      subst e
      rw [askC, askC, if_pos rfl]
    | succ m =>
      rw [askC, askC]
      by_cases c : a = 0
      · rw [if_pos c, if_pos c]
      · have := h.2 a (by omega) ha
        rw [if_neg c, if_neg c, ih m (f a) (by omega) (by omega) (by omega)]
theorem askC_step {f : Nat → Nat} (h : paOk f) (s : AS) {a : Nat} (h1 : 1 ≤ a) (ha : a < 8) : askC f 8 a s = fillS a (askC f 8 (f a) s) := by
  have := h.2 a h1 ha
  rw [askC_st h s 8 7 (f a) (by omega) (by omega) (by omega)]
  show (if a = 0 then s else fillS a (askC f 7 (f a) s)) = _
  rw [if_neg (by omega)]
theorem askC_z (f : Nat → Nat) (s : AS) : askC f 8 0 s = s := by
  show (if 0 = 0 then s else _) = s
  rw [if_pos rfl]
theorem askL_chain {T : TT} (I : InvT T) {p : Nat} (h1 : 1 ≤ p) (hp : p < 8) : ∀ (d k i : Nat) (s : AS), k + d = p + 1 → 1 ≤ k → i ≤ dep T 8 p → (1 ≤ d → 1 ≤ i) → itN (tt_pa T) i p < k → (1 ≤ i → k ≤ itN (tt_pa T) (i - 1) p) → s = askC (tt_pa T) 8 (itN (tt_pa T) i p) (0, 0, 0, T) → InvT s.2.2.2 → tt_pa s.2.2.2 = tt_pa T → askL p d k s = askC (tt_pa T) 8 p (0, 0, 0, T) := by
  have hpo := it_paOk I
  intro d
  induction d with
  | zero =>
    intro k i s hk k1 hi hdi hlt hge hs Is ps
    have : i = 0 := by
      rcases Nat.eq_zero_or_pos i with z | z
      · exact z
      · have := hge z
        have := itN_le hpo hp (i - 1)
        omega
    subst this
    rw [askL, hs]
    rfl
  | succ d ih =>
    intro k i s hk k1 hi hdi hlt hge hs Is ps
    have i1 := hdi (by omega)
    have hge' := hge i1
    have ok := askS_ok (p := p) (k := k) (by omega) Is
    rw [askL]
    by_cases c : k = itN (tt_pa T) (i - 1) p
    · have cond : k = p ∨ abv s.2.2.2 k 8 p = true := by
        by_cases z : i = 1
        · left; rw [c, z]; rfl
        · right
          rw [abv_c ps]
          have := dep_le hpo p hp
          exact it_abv hpo.1 k1 8 (i - 1) p (by omega) (by omega) c.symm
      have es : askS p k s = fillS k s := by rw [askS, if_pos cond]; rfl
      have step : fillS k s = askC (tt_pa T) 8 (itN (tt_pa T) (i - 1) p) (0, 0, 0, T) := by
        rw [← c, askC_step hpo _ k1 (by omega), hs]
        congr 2
        rw [c]
        show itN (tt_pa T) i p = itN (tt_pa T) (i - 1 + 1) p
        rw [show i - 1 + 1 = i by omega]
      refine ih (k + 1) (i - 1) (askS p k s) (by omega) (by omega) (by omega) (fun hd => ?_) (by omega) (fun j1 => ?_) (by rw [es]; exact step) ok.1 (by rw [ok.2.1.1]; exact ps)
      · rcases Nat.eq_zero_or_pos (i - 1) with z | z
        · rw [z] at c
          have : k = p := c
          omega
        · exact z
      · have hpos := it_pos hpo hp (i := i - 1) (by omega)
        have hle := itN_le hpo hp (i - 1 - 1)
        have : itN (tt_pa T) (i - 1) p < itN (tt_pa T) (i - 1 - 1) p := by
          have e : itN (tt_pa T) (i - 1) p = tt_pa T (itN (tt_pa T) (i - 1 - 1) p) := by
            show _ = itN (tt_pa T) (i - 1 - 1 + 1) p
            rw [show i - 1 - 1 + 1 = i - 1 by omega]
          have q1 := it_pos hpo hp (i := i - 1 - 1) (by omega)
          rw [e]
          exact hpo.2 _ q1 (by omega)
        omega
    · have ncond : ¬ (k = p ∨ abv s.2.2.2 k 8 p = true) := by
        rintro (q | q)
        · have := itN_le hpo hp (i - 1)
          omega
        · rw [abv_c ps] at q
          obtain ⟨j, j1, je⟩ := abv_it _ _ q
          rcases Nat.lt_or_ge j i with z | z
          · have := itN_anti hpo hp (i := j) (j := i - 1) (by omega)
            omega
          · have := itN_anti hpo hp z
            omega
      have es : askS p k s = s := by rw [askS, if_neg ncond]
      rw [es]
      exact ih (k + 1) i s (by omega) (by omega) hi (fun _ => i1) (by omega) (fun _ => by omega) hs Is ps
theorem askA_chain {T : TT} (I : InvT T) {p : Nat} (h1 : 1 ≤ p) (hp : p < 8) : askA T p = askC (tt_pa T) 8 p (0, 0, 0, T) := by
  have hpo := it_paOk I
  have hd : 1 ≤ dep T 8 p := by rw [dep_step hpo h1 hp]; omega
  have he := it_end hpo hp
  exact askL_chain I h1 hp p 1 (dep T 8 p) (0, 0, 0, T) (by omega) (by omega) (Nat.le_refl _) (fun _ => hd) (by rw [he]; omega) (fun _ => it_pos hpo hp (by omega)) (by rw [he, askC_z]) I rfl
theorem arrive_kn (T : TT) {p fr u j : Nat} (hu : u / 100 < 4) (hj : j < 4 * p ∨ 4 * p + 4 ≤ j) : tt_kn (arrive T p fr u) j = tt_kn T j := by
  have k1 : ∀ (T : TT) (q u : Nat), tt_kn (keep T q u) = tt_kn T := by
    intro T q u
    unfold keep
    split <;> rfl
  unfold arrive
  split
  · rfl
  · split
    · rfl
    · unfold learn
      rw [(passOn_same _ p fr u).2.2.2.2.1, k1]
      exact up_n (by omega)
theorem fillS_ok {s : AS} (I : InvT s.2.2.2) {k : Nat} (hk : k < 8) : InvT (fillS k s).2.2.2 ∧ Fx s.2.2.2 (fillS k s).2.2.2 := by
  obtain ⟨a, b, -⟩ := fillL_ok k (tt_pa s.2.2.2 k) hk (gapO s.2.2.2 k 4) s.2.2.2 I (gapO_up I hk)
  exact ⟨a, b⟩
