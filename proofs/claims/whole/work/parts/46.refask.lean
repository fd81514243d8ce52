/-! ===== the chain of the proxies above one ===== -/
def itN (f : Nat → Nat) : Nat → Nat → Nat
  | 0, a => a
  | i + 1, a => f (itN f i a)
theorem itN_in (f : Nat → Nat) : ∀ (i a : Nat), itN f i (f a) = itN f (i + 1) a
  | 0, _ => rfl
  | i + 1, a => by
    show f (itN f i (f a)) = f (itN f (i + 1) a)
    rw [itN_in f i a]
/-- parents are smaller -/
def paOk (f : Nat → Nat) : Prop := f 0 = 0 ∧ ∀ a, 1 ≤ a → a < 8 → f a < a
theorem paOk.le {f : Nat → Nat} (h : paOk f) {a : Nat} (ha : a < 8) : f a ≤ a := by
  rcases Nat.eq_zero_or_pos a with e | e
  · rw [e, h.1]; exact Nat.le_refl _
  · exact Nat.le_of_lt (h.2 a e ha)
theorem itN_le {f : Nat → Nat} (h : paOk f) {a : Nat} (ha : a < 8) : ∀ i, itN f i a ≤ a := by
  intro i
  induction i with
  | zero => exact Nat.le_refl _
  | succ i ih => exact Nat.le_trans (h.le (by omega)) ih
theorem itN_anti {f : Nat → Nat} (h : paOk f) {a : Nat} (ha : a < 8) : ∀ {i j : Nat}, i ≤ j → itN f j a ≤ itN f i a := by
  intro i j hij
  obtain ⟨d, rfl⟩ : ∃ d, j = i + d := ⟨j - i, by omega⟩
  clear hij
  induction d with
  | zero => exact Nat.le_refl _
  | succ d ih =>
    have := itN_le h ha (i + d)
    show f (itN f (i + d) a) ≤ _
    exact Nat.le_trans (h.le (a := itN f (i + d) a) (by omega)) ih
theorem itN_zero {f : Nat → Nat} (h : f 0 = 0) : ∀ i, itN f i 0 = 0
  | 0 => rfl
  | i + 1 => by show f (itN f i 0) = 0; rw [itN_zero h i, h]
theorem it_paOk {T : TT} (I : InvT T) : paOk (tt_pa T) := I.2.2.2.1
theorem dep_st {T : TT} (h : paOk (tt_pa T)) : ∀ (n m a : Nat), a < 8 → a ≤ n → a ≤ m → dep T n a = dep T m a := by
  intro n
  induction n with
  | zero =>
    intro m a ha h1 h2
    have e : a = 0 := by omega
    subst e
    cases m with
    | zero => rfl
    | succ m => rw [dep, dep, if_pos rfl]
  | succ n ih =>
    intro m a ha h1 h2
    cases m with
    | zero =>
      have e : a = 0 := by omega
      subst e
      rw [dep, dep, if_pos rfl]
    | succ m =>
      rw [dep, dep]
      by_cases c : a = 0
      · rw [if_pos c, if_pos c]
      · have := h.2 a (by omega) ha
        rw [if_neg c, if_neg c, ih m (tt_pa T a) (by omega) (by omega) (by omega)]
theorem dep_step {T : TT} (h : paOk (tt_pa T)) {a : Nat} (h1 : 1 ≤ a) (ha : a < 8) : dep T 8 a = dep T 8 (tt_pa T a) + 1 := by
  have := h.2 a h1 ha
  rw [dep_st h 8 7 (tt_pa T a) (by omega) (by omega) (by omega)]
  show (if a = 0 then 0 else dep T 7 (tt_pa T a) + 1) = _
  rw [if_neg (by omega)]
theorem dep_z (T : TT) : dep T 8 0 = 0 := by
  show (if 0 = 0 then 0 else _) = 0
  rw [if_pos rfl]
theorem dep_le {T : TT} (h : paOk (tt_pa T)) : ∀ a, a < 8 → dep T 8 a ≤ a := by
  intro a
  induction a using Nat.strongRecOn with
  | ind a ih =>
    intro ha
    rcases Nat.eq_zero_or_pos a with e | e
    · rw [e, dep_z]; exact Nat.le_refl _
    · have := h.2 a e ha
      have := ih (tt_pa T a) this (by omega)
      rw [dep_step h e ha]
      omega
theorem dep_it {T : TT} (h : paOk (tt_pa T)) {p : Nat} (hp : p < 8) : ∀ i, i ≤ dep T 8 p → dep T 8 (itN (tt_pa T) i p) = dep T 8 p - i := by
  intro i
  induction i with
  | zero => intro _; rfl
  | succ i ih =>
    intro hi
    have e := ih (by omega)
    have hl := itN_le h hp i
    have hpos : 1 ≤ itN (tt_pa T) i p := by
      rcases Nat.eq_zero_or_pos (itN (tt_pa T) i p) with z | z
      · rw [z, dep_z] at e; omega
      · exact z
    have := dep_step h hpos (by omega)
    show dep T 8 (tt_pa T (itN (tt_pa T) i p)) = _
    omega
theorem it_pos {T : TT} (h : paOk (tt_pa T)) {p i : Nat} (hp : p < 8) (hi : i < dep T 8 p) : 1 ≤ itN (tt_pa T) i p := by
  have e := dep_it h hp i (by omega)
  rcases Nat.eq_zero_or_pos (itN (tt_pa T) i p) with z | z
  · rw [z, dep_z] at e; omega
  · exact z
theorem it_end {T : TT} (h : paOk (tt_pa T)) {p : Nat} (hp : p < 8) : itN (tt_pa T) (dep T 8 p) p = 0 := by
  have e := dep_it h hp (dep T 8 p) (Nat.le_refl _)
  have hl := itN_le h hp (dep T 8 p)
  rcases Nat.eq_zero_or_pos (itN (tt_pa T) (dep T 8 p) p) with z | z
  · exact z
  · have := dep_step h z (by omega)
    omega
theorem abv_it {T : TT} {k : Nat} : ∀ (n a : Nat), abv T k n a = true → ∃ j, 1 ≤ j ∧ itN (tt_pa T) j a = k := by
  intro n
  induction n with
  | zero => intro a h; cases h
  | succ n ih =>
    intro a h
    rw [abv] at h
    by_cases c : a = 0
    · rw [if_pos c] at h; cases h
    · rw [if_neg c] at h
      by_cases d : tt_pa T a = k
      · exact ⟨1, Nat.le_refl _, d⟩
      · rw [if_neg d] at h
        obtain ⟨j, j1, je⟩ := ih _ h
        exact ⟨j + 1, by omega, by rw [← itN_in]; exact je⟩
theorem it_abv {T : TT} (h0 : tt_pa T 0 = 0) {k : Nat} (hk : 1 ≤ k) : ∀ (n j a : Nat), 1 ≤ j → j ≤ n → itN (tt_pa T) j a = k → abv T k n a = true := by
  intro n
  induction n with
  | zero => intro j a j1 jn _; omega
  | succ n ih =>
    intro j a j1 jn e
    have ha : a ≠ 0 := by
      intro z
      rw [z, itN_zero h0] at e
      omega
    rw [abv, if_neg ha]
    by_cases d : tt_pa T a = k
    · rw [if_pos d]
    · rw [if_neg d]
      obtain ⟨j, rfl⟩ : ∃ i, j = i + 1 := ⟨j - 1, by omega⟩
      rw [← itN_in] at e
      have : j ≠ 0 := by
        intro z
        rw [z] at e
        exact d e
      exact ih j _ (by omega) (by omega) e
theorem abv_c {T T' : TT} (h : tt_pa T' = tt_pa T) (k : Nat) : ∀ n a, abv T' k n a = abv T k n a := by
  intro n
  induction n with
  | zero => intro a; rfl
  | succ n ih => intro a; rw [abv, abv, h, ih]
def fillS (k : Nat) (s : AS) : AS := (s.1 + (fillL k (tt_pa s.2.2.2 k) (gapO s.2.2.2 k 4) s.2.2.2).1, s.2.1 + (fillL k (tt_pa s.2.2.2 k) (gapO s.2.2.2 k 4) s.2.2.2).2.1, (fillL k (tt_pa s.2.2.2 k) (gapO s.2.2.2 k 4) s.2.2.2).1, (fillL k (tt_pa s.2.2.2 k) (gapO s.2.2.2 k 4) s.2.2.2).2.2)
/-- the proxies above a, from the root down, then a itself -/
def askC (f : Nat → Nat) : Nat → Nat → AS → AS
  | 0, _, s => s
  | n + 1, a, s => if a = 0 then s else fillS a (askC f n (f a) s)
theorem askC_st {f : Nat → Nat} (h : paOk f) (s : AS) : ∀ (n m a : Nat), a < 8 → a ≤ n → a ≤ m → askC f n a s = askC f m a s := by
  intro n
  induction n with
  | zero =>
    intro m a ha h1 h2
    have e : a = 0 := by omega
    subst e
    cases m with
    | zero => rfl
    | succ m => rw [askC, askC, if_pos rfl]
  | succ n ih =>
    intro m a ha h1 h2
    cases m with
    | zero =>
      have e : a = 0 := by omega
      subst e
      rw [askC, askC, if_pos rfl]
    | succ m =>
      rw [askC, askC]
      by_cases c : a = 0
      · rw [if_pos c, if_pos c]
      · have := h.2 a (by omega) ha
        rw [if_neg c, if_neg c, ih m (f a) (by omega) (by omega) (by omega)]
theorem askC_step {f : Nat → Nat} (h : paOk f) (s : AS) {a : Nat} (h1 : 1 ≤ a) (ha : a < 8) : askC f 8 a s = fillS a (askC f 8 (f a) s) := by
  have := h.2 a h1 ha
  rw [askC_st h s 8 7 (f a) (by omega) (by omega) (by omega)]
  show (if a = 0 then s else fillS a (askC f 7 (f a) s)) = _
  rw [if_neg (by omega)]
theorem askC_z (f : Nat → Nat) (s : AS) : askC f 8 0 s = s := by
  show (if 0 = 0 then s else _) = s
  rw [if_pos rfl]
theorem askL_chain {T : TT} (I : InvT T) {p : Nat} (h1 : 1 ≤ p) (hp : p < 8) : ∀ (d k i : Nat) (s : AS), k + d = p + 1 → 1 ≤ k → i ≤ dep T 8 p → (1 ≤ d → 1 ≤ i) → itN (tt_pa T) i p < k → (1 ≤ i → k ≤ itN (tt_pa T) (i - 1) p) → s = askC (tt_pa T) 8 (itN (tt_pa T) i p) (0, 0, 0, T) → InvT s.2.2.2 → tt_pa s.2.2.2 = tt_pa T → askL p d k s = askC (tt_pa T) 8 p (0, 0, 0, T) := by
  have hpo := it_paOk I
  intro d
  induction d with
  | zero =>
    intro k i s hk k1 hi hdi hlt hge hs Is ps
    have : i = 0 := by
      rcases Nat.eq_zero_or_pos i with z | z
      · exact z
      · have := hge z
        have := itN_le hpo hp (i - 1)
        omega
    subst this
    rw [askL, hs]
    rfl
  | succ d ih =>
    intro k i s hk k1 hi hdi hlt hge hs Is ps
    have i1 := hdi (by omega)
    have hge' := hge i1
    have ok := askS_ok (p := p) (k := k) (by omega) Is
    rw [askL]
    by_cases c : k = itN (tt_pa T) (i - 1) p
    · have cond : k = p ∨ abv s.2.2.2 k 8 p = true := by
        by_cases z : i = 1
        · left; rw [c, z]; rfl
        · right
          rw [abv_c ps]
          have := dep_le hpo p hp
          exact it_abv hpo.1 k1 8 (i - 1) p (by omega) (by omega) c.symm
      have es : askS p k s = fillS k s := by rw [askS, if_pos cond]; rfl
      have step : fillS k s = askC (tt_pa T) 8 (itN (tt_pa T) (i - 1) p) (0, 0, 0, T) := by
        rw [← c, askC_step hpo _ k1 (by omega), hs]
        congr 2
        rw [c]
        show itN (tt_pa T) i p = itN (tt_pa T) (i - 1 + 1) p
        rw [show i - 1 + 1 = i by omega]
      refine ih (k + 1) (i - 1) (askS p k s) (by omega) (by omega) (by omega) (fun hd => ?_) (by omega) (fun j1 => ?_) (by rw [es]; exact step) ok.1 (by rw [ok.2.1.1]; exact ps)
      · rcases Nat.eq_zero_or_pos (i - 1) with z | z
        · rw [z] at c
          have : k = p := c
          omega
        · exact z
      · have hpos := it_pos hpo hp (i := i - 1) (by omega)
        have hle := itN_le hpo hp (i - 1 - 1)
        have : itN (tt_pa T) (i - 1) p < itN (tt_pa T) (i - 1 - 1) p := by
          have e : itN (tt_pa T) (i - 1) p = tt_pa T (itN (tt_pa T) (i - 1 - 1) p) := by
            show _ = itN (tt_pa T) (i - 1 - 1 + 1) p
            rw [show i - 1 - 1 + 1 = i - 1 by omega]
          have q1 := it_pos hpo hp (i := i - 1 - 1) (by omega)
          rw [e]
          exact hpo.2 _ q1 (by omega)
        omega
    · have ncond : ¬ (k = p ∨ abv s.2.2.2 k 8 p = true) := by
        rintro (q | q)
        · have := itN_le hpo hp (i - 1)
          omega
        · rw [abv_c ps] at q
          obtain ⟨j, j1, je⟩ := abv_it _ _ q
          rcases Nat.lt_or_ge j i with z | z
          · have := itN_anti hpo hp (i := j) (j := i - 1) (by omega)
            omega
          · have := itN_anti hpo hp z
            omega
      have es : askS p k s = s := by rw [askS, if_neg ncond]
      rw [es]
      exact ih (k + 1) i s (by omega) (by omega) hi (fun _ => i1) (by omega) (fun _ => by omega) hs Is ps
theorem askA_chain {T : TT} (I : InvT T) {p : Nat} (h1 : 1 ≤ p) (hp : p < 8) : askA T p = askC (tt_pa T) 8 p (0, 0, 0, T) := by
  have hpo := it_paOk I
  have hd : 1 ≤ dep T 8 p := by rw [dep_step hpo h1 hp]; omega
  have he := it_end hpo hp
  exact askL_chain I h1 hp p 1 (dep T 8 p) (0, 0, 0, T) (by omega) (by omega) (Nat.le_refl _) (fun _ => hd) (by rw [he]; omega) (fun _ => it_pos hpo hp (by omega)) (by rw [he, askC_z]) I rfl
section RASK
variable {T : TT} {w : Wd}
theorem r_depth (h : RepR T (w 1)) (I : InvT T) {a : Nat} (ha : a < 8) : m_X8_depth (nI a) w = some (nI (dep T 8 a)) := by
  have hpo := it_paOk I
  have key : ∀ (d n s a : Nat), a ≤ d → a < 8 → d < n → m_X8_depth_L4 w n (nI s) (nI a) = some (nI (s + dep T 8 a)) := by
    intro d
    induction d with
    | zero =>
      intro n s a had ha hn
      obtain ⟨n, rfl⟩ : ∃ m, n = m + 1 := ⟨n - 1, by omega⟩
      have e : a = 0 := by omega
      subst e
      rw [m_X8_depth_L4, if_pos (by decide), dep_z, Nat.add_zero]
    | succ d ih =>
      intro n s a had ha hn
      obtain ⟨n, rfl⟩ : ∃ m, n = m + 1 := ⟨n - 1, by omega⟩
      rw [m_X8_depth_L4]
      by_cases c : a = 0
      · rw [if_pos (by rw [c]; decide), c, dep_z, Nat.add_zero]
      · have := hpo.2 a (by omega) ha
        rw [if_neg (by rw [z_le0 (by omega)]; exact c), nI_add, if_pos (ib_n (by omega) (by omega)), nI_clamp (by omega), rr_pa h (by omega) ha, lt_eq, nI_add, ih n (s + 1) (tt_pa T a) (by omega) (by omega) (by omega), dep_step hpo (by omega) ha, show s + 1 + dep T 8 (tt_pa T a) = s + (dep T 8 (tt_pa T a) + 1) by omega]
  have := key 8 FU 0 a (by omega) ha (by have := FUb; omega)
  rw [Nat.zero_add] at this
  exact this
def wanV (T : TT) (p o : Nat) : Nat → List Nat
  | 0 => []
  | n + 1 => wanV T p o n ++ (if tt_kn T (4 * p + o) (n + 1) then [] else [100 * o + (n + 1)])
def wanO (T : TT) (p : Nat) : Nat → List Nat
  | 0 => []
  | o + 1 => wanO T p o ++ wanV T p o (bnd (tt_kn T (4 * p + o)) 24 - 1)
def pKn (T : TT) (p u : Nat) : Bool := tt_kn T (4 * tt_pa T p + u / 100) (u % 100)
theorem wanV_f (T : TT) (p o : Nat) : ∀ n, n ≤ 24 → (wanV T p o n).filter (pKn T p) = gapV T p o n := by
  intro n
  induction n with
  | zero => intro _; rfl
  | succ n ih =>
    intro hn
    rw [wanV, gapV, List.filter_append, ih (by omega)]
    congr 1
    have e : pKn T p (100 * o + (n + 1)) = tt_kn T (4 * tt_pa T p + o) (n + 1) := by
      unfold pKn
      rw [show (100 * o + (n + 1)) / 100 = o by omega, show (100 * o + (n + 1)) % 100 = n + 1 by omega]
    unfold gapc
    by_cases c : tt_kn T (4 * p + o) (n + 1) = true
    · rw [if_pos c, c]; rfl
    · rw [if_neg c]
      simp only [Bool.not_eq_true] at c
      rw [c, List.filter_cons, e]
      by_cases d : tt_kn T (4 * tt_pa T p + o) (n + 1) = true
      · rw [if_pos d, d]; rfl
      · rw [if_neg d]
        simp only [Bool.not_eq_true] at d
        rw [d]; rfl
theorem wanO_f (T : TT) (p : Nat) : ∀ o, (wanO T p o).filter (pKn T p) = gapO T p o := by
  intro o
  induction o with
  | zero => rfl
  | succ o ih =>
    have := bnd_le (tt_kn T (4 * p + o)) 24
    rw [wanO, gapO, List.filter_append, ih, wanV_f _ _ _ _ (by omega)]
theorem wanV_len (T : TT) (p o : Nat) : ∀ n, (wanV T p o n).length ≤ n := by
  intro n
  induction n with
  | zero => exact Nat.le_refl _
  | succ n ih =>
    rw [wanV, List.length_append]
    split
    · show _ + 0 ≤ n + 1; omega
    · show _ + 1 ≤ n + 1; omega
theorem wanO_len (T : TT) (p : Nat) : ∀ o, (wanO T p o).length ≤ 23 * o := by
  intro o
  induction o with
  | zero => exact Nat.le_refl _
  | succ o ih =>
    have := wanV_len T p o (bnd (tt_kn T (4 * p + o)) 24 - 1)
    have := bnd_le (tt_kn T (4 * p + o)) 24
    rw [wanO, List.length_append]
    omega
theorem wanV_mem {T : TT} {p o u : Nat} : ∀ {n}, u ∈ wanV T p o n → ∃ v, u = 100 * o + v ∧ 1 ≤ v ∧ v ≤ n := by
  intro n
  induction n with
  | zero => intro h; simp [wanV] at h
  | succ n ih =>
    intro h
    rw [wanV] at h
    rcases List.mem_append.mp h with z | z
    · obtain ⟨v, a, b, c⟩ := ih z
      exact ⟨v, a, b, by omega⟩
    · by_cases c : tt_kn T (4 * p + o) (n + 1) = true
      · rw [if_pos c] at z; cases z
      · rw [if_neg c] at z
        exact ⟨n + 1, List.mem_singleton.mp z, by omega, by omega⟩
theorem wanO_mem {T : TT} {p u : Nat} : ∀ {n}, u ∈ wanO T p n → ∃ o v, o < n ∧ u = 100 * o + v ∧ 1 ≤ v ∧ v ≤ 24 := by
  intro n
  induction n with
  | zero => intro h; simp [wanO] at h
  | succ n ih =>
    intro h
    rw [wanO] at h
    rcases List.mem_append.mp h with z | z
    · obtain ⟨o, v, a, b⟩ := ih z
      exact ⟨o, v, by omega, b⟩
    · obtain ⟨v, a, b, c⟩ := wanV_mem z
      have := bnd_le (tt_kn T (4 * p + n)) 24
      exact ⟨n, v, by omega, a, b, by omega⟩
theorem r_f_L20 (h : RepR T (w 1)) {p o : Nat} (hp : p < 8) (ho : o < 4) (kx : Int32 → Wd → Option (Int32 × Wd)) : ∀ (d n v : Nat) (l : List Nat) (w' : Wd), v + d = bnd (tt_kn T (4 * p + o)) 24 - 1 → d < n → l.length + v + d < 96 → (∀ k, k ≠ 6 → w' k = w k) → RLn (nI (l ++ wanV T p o v).length) (w' 6) (l ++ wanV T p o v) → ∃ w2, m_X8_fetches_L20 (nI p) (nI o) (nI (bnd (tt_kn T (4 * p + o)) 24)) kx n (nI (l ++ wanV T p o v).length) (nI (v + 1)) w' = kx (nI (l ++ wanV T p o (bnd (tt_kn T (4 * p + o)) 24 - 1)).length) w2 ∧ (∀ k, k ≠ 6 → w2 k = w k) ∧ RLn (nI (l ++ wanV T p o (bnd (tt_kn T (4 * p + o)) 24 - 1)).length) (w2 6) (l ++ wanV T p o (bnd (tt_kn T (4 * p + o)) 24 - 1)) := by
  have hb := bnd_le (tt_kn T (4 * p + o)) 24
  intro d
  induction d with
  | zero =>
    intro n v l w' hv hn hlb hf hr
    obtain ⟨n, rfl⟩ : ∃ m, n = m + 1 := ⟨n - 1, by omega⟩
    rw [← hv]
    refine ⟨w', ?_, hf, by rw [Nat.add_zero]; exact hr⟩
    rw [m_X8_fetches_L20, if_pos (by rw [z_le (by omega) (by omega)]; omega)]
    rfl
  | succ d ih =>
    intro n v l w' hv hn hlb hf hr
    obtain ⟨n, rfl⟩ : ∃ m, n = m + 1 := ⟨n - 1, by omega⟩
    have h' : RepR T (w' 1) := by rw [hf 1 (by omega)]; exact h
    have hlv := wanV_len T p o v
    have hll : (l ++ wanV T p o v).length ≤ l.length + v := by rw [List.length_append]; omega
    rw [m_X8_fetches_L20, if_neg (by rw [z_le (by omega) (by omega)]; omega), r_knows h' hp ho (by omega) (by omega), b_b]
    by_cases c : tt_kn T (4 * p + o) (v + 1) = true
    · have eg : wanV T p o (v + 1) = wanV T p o v := by rw [wanV, if_pos c, List.append_nil]
      rw [if_pos c, if_pos (by decide), m_X8_fetches_j54, nI_add]
      have := ih n (v + 1) l w' (by omega) (by omega) (by omega) hf (by rw [eg]; exact hr)
      rw [eg] at this
      exact this
    · have eg : wanV T p o (v + 1) = wanV T p o v ++ [100 * o + (v + 1)] := by rw [wanV, if_neg c]
      have ap := rl_app hr (100 * o + (v + 1))
      have el : (l ++ wanV T p o (v + 1)).length = (l ++ wanV T p o v).length + 1 := by rw [eg, ← List.append_assoc, List.length_append]; rfl
      rw [if_neg c, if_neg (by decide), if_pos (ib_n (by omega) (by omega)), pk_mul, nI_add, nI_clamp (by omega), lt_eq, m_X8_fetches_j54, nI_add, nI_add, ← el]
      have := ih n (v + 1) l (wset w' 6 (l ++ wanV T p o v).length (nI (100 * o + (v + 1)))) (by omega) (by omega) (by omega) (fun k hk => by rw [wset_ne hk]; exact hf k hk) (by
        rw [el, wset_same, eg, ← List.append_assoc]
        exact ap)
      exact this
theorem r_f_L4 (h : RepR T (w 1)) {p : Nat} (hp : p < 8) (kx : Int32 → Wd → Option (Int32 × Wd)) : ∃ w', m_X8_fetches_L4 (nI p) kx FU (nI 0) (nI 0) w = kx (nI (wanO T p 4).length) w' ∧ (∀ k, k ≠ 6 → w' k = w k) ∧ RLn (nI (wanO T p 4).length) (w' 6) (wanO T p 4) := by
  obtain ⟨N, hN, -⟩ := FU5
  have st : ∀ (o n : Nat) (u : Wd), o < 4 → (∀ k, k ≠ 6 → u k = w k) → RLn (nI (wanO T p o).length) (u 6) (wanO T p o) → ∃ u', m_X8_fetches_L4 (nI p) kx (n + 1) (nI (wanO T p o).length) (nI o) u = m_X8_fetches_L4 (nI p) kx n (nI (wanO T p (o + 1)).length) (nI (o + 1)) u' ∧ (∀ k, k ≠ 6 → u' k = w k) ∧ RLn (nI (wanO T p (o + 1)).length) (u' 6) (wanO T p (o + 1)) := by
    intro o n u ho hf hr
    have hu : RepR T (u 1) := by rw [hf 1 (by omega)]; exact h
    have hF := FUb
    have hl := wanO_len T p o
    have hb := bnd_le (tt_kn T (4 * p + o)) 24
    obtain ⟨u', a, b, c⟩ := r_f_L20 h hp ho (fun x2_2 w3 => (m_X8_fetches_L4 (nI p) kx n) x2_2 (nI o + (nI 1)) w3) (bnd (tt_kn T (4 * p + o)) 24 - 1) FU 0 (wanO T p o) u (by omega) (by omega) (by omega) hf (by rw [wanV, List.append_nil]; exact hr)
    rw [wanV, List.append_nil, show (0 + 1) = 1 from rfl] at a
    refine ⟨u', ?_, b, c⟩
    rw [m_X8_fetches_L4, if_neg (by rw [z_le (by omega) (by omega)]; omega), r_boundOf hu hp ho, b_b, a, nI_add]
    rfl
  rw [hN]
  obtain ⟨w1, a1, a2, a3⟩ := st 0 (N + 4) w (by omega) (fun _ _ => rfl) ⟨rfl, fun k x hx => by simp [wanO] at hx⟩
  obtain ⟨w2, b1, b2, b3⟩ := st 1 (N + 3) w1 (by omega) a2 a3
  obtain ⟨w3, c1, c2, c3⟩ := st 2 (N + 2) w2 (by omega) b2 b3
  obtain ⟨w4, d1, d2, d3⟩ := st 3 (N + 1) w3 (by omega) c2 c3
  refine ⟨w4, ?_, d2, d3⟩
  have z0 : m_X8_fetches_L4 (nI p) kx (N + 5) (nI 0) (nI 0) w = m_X8_fetches_L4 (nI p) kx (N + 4) (nI (wanO T p (0 + 1)).length) (nI (0 + 1)) w1 := a1
  rw [z0, b1, c1, d1, m_X8_fetches_L4, if_pos (by decide)]
theorem arrive_kn (T : TT) {p fr u j : Nat} (hu : u / 100 < 4) (hj : j < 4 * p ∨ 4 * p + 4 ≤ j) : tt_kn (arrive T p fr u) j = tt_kn T j := by
  have k1 : ∀ (T : TT) (q u : Nat), tt_kn (keep T q u) = tt_kn T := by
    intro T q u
    unfold keep
    split <;> rfl
  unfold arrive
  split
  · rfl
  · split
    · rfl
    · unfold learn
      rw [(passOn_same _ p fr u).2.2.2.2.1, k1]
      exact up_n (by omega)
theorem r_f_L82 {p : Nat} (h1 : 1 ≤ p) (hp : p < 8) {W : List Nat} (hW : W.length ≤ 96) (hWv : ∀ u ∈ W, valU u) (K : Nat → Nat → Bool) {P : Nat} (hP : P < 8) (hne : P ≠ p) (hK : ∀ u ∈ W, K (4 * P + u / 100) (u % 100) = true → True) : ∀ (l : List Nat) (n k a t : Nat) (T : TT) (w : Wd), W.drop k = l → k ≤ W.length → l.length < n → a + l.length < 1000 → RepR T (w 1) → InvT T → p < tt_nu T 0 → tt_pa T p = P → (∀ j, (j < 4 * p ∨ 4 * p + 4 ≤ j) → tt_kn T j = K j) → RLn (nI W.length) (w 6) W → w 0 8 = nI t → ∃ w', m_X8_fetches_L82 (nI p) (nI W.length) (nI P) n (nI a) (nI k) w = some (nI (a + (fillL p P (l.filter (fun u => K (4 * P + u / 100) (u % 100))) T).1), w') ∧ RepR (fillL p P (l.filter (fun u => K (4 * P + u / 100) (u % 100))) T).2.2 (w' 1) ∧ w' 0 8 = nI (t + ((fillL p P (l.filter (fun u => K (4 * P + u / 100) (u % 100))) T).1 + (fillL p P (l.filter (fun u => K (4 * P + u / 100) (u % 100))) T).2.1)) ∧ FrW w w' := by
  intro l
  induction l with
  | nil =>
    intro n k a t T w hd hk hn ha h I hpn hpa hkn hr ht
    obtain ⟨n, rfl⟩ : ∃ m, n = m + 1 := ⟨n - 1, by simp at hn; omega⟩
    have hlen : W.length ≤ k := by
      have := congrArg List.length hd
      simp at this
      omega
    refine ⟨w, ?_, h, ht, FrW.rf⟩
    rw [m_X8_fetches_L82, if_pos (by rw [z_le (by omega) (by omega)]; omega)]
    rfl
  | cons u l ih =>
    intro n k a t T w hd hk hn ha h I hpn hpa hkn hr ht
    obtain ⟨n, rfl⟩ : ∃ m, n = m + 1 := ⟨n - 1, by simp at hn; omega⟩
    have hlt : k < W.length := by
      have := congrArg List.length hd
      simp at this
      omega
    have hdd : W[k] :: W.drop (k + 1) = u :: l := by rw [← hd]; exact (List.drop_eq_getElem_cons hlt).symm
    have hd1 : W[k] = u := (List.cons.inj hdd).1
    have hd2 : W.drop (k + 1) = l := (List.cons.inj hdd).2
    have huW : u ∈ W := by rw [← hd1]; exact List.getElem_mem hlt
    obtain ⟨o, v, eu, ho, hv1, hv⟩ := hWv u huW
    have e6 : w 6 k = nI u := by rw [← hd1]; exact rl_at hr hlt
    have eo : u / 100 = o := by omega
    have ev : u % 100 = v := by omega
    have ed : nI u / nI 100 = nI o := by rw [pk_div (by omega) (by omega) (by omega), eo]
    have er : nI u - nI u / nI 100 * nI 100 = nI v := by rw [ed, pk_mul, z_sub (by omega), show u - o * 100 = v by omega]
    have hib : ib (nI k) 96 := ib_n (by omega) (by omega)
    have hcl : (nI k).toNatClampNeg = k := nI_clamp (by omega)
    rw [List.length_cons] at hn ha
    have ekn : tt_kn T (4 * P + o) v = K (4 * P + o) v := by rw [hkn (4 * P + o) (by omega)]
    have e6' : w 6 (nI k).toNatClampNeg = nI u := by rw [hcl, e6]
    rw [m_X8_fetches_L82, if_neg (by rw [z_le (by omega) (by omega)]; omega), if_pos hib, if_pos hib, e6', er, ed, r_knows h hP ho hv1 hv, b_b, ekn, List.filter_cons, eo, ev]
    by_cases g : K (4 * P + o) v = true
    · have hup : upOk (tt_wr T) u := ⟨o, v, eu, ho, hv1, (I.2.2.2.2.2.2.2.2.1 P o v hP ho (by rw [ekn]; exact g)).2⟩
      obtain ⟨w1, a1, a2, a3⟩ := r_arrives h I (p := p) (fr := P) hpn hP hup
      have I1 := arrive_inv I (p := p) (fr := P) hp hup
      have hf := arrive_fx T hp P u
      have hkn1 : ∀ j, (j < 4 * p ∨ 4 * p + 4 ≤ j) → tt_kn (arrive T p P u) j = K j := fun j hj => by rw [arrive_kn T (by omega) hj]; exact hkn j hj
      have ht1 := arrTold_le T p P u
      have t8 : w1 0 8 = nI t := by rw [a3 0 (by omega) (by omega)]; exact ht
      rw [if_pos g, if_neg (by decide), if_pos hib, a1, b_b, if_pos g, fillL]
      dsimp only
      generalize arrTold T p P u = q at *
      generalize arrive T p P u = T1 at *
      have nx : ∀ (b : Nat), ∃ w2, wset w1 0 8 (w1 0 8 + nI b) = w2 ∧ RepR T1 (w2 1) ∧ RLn (nI W.length) (w2 6) W ∧ w2 0 8 = nI (t + b) ∧ FrW w w2 := by
        intro b
        refine ⟨_, rfl, by rw [wset_ne (by omega)]; exact a2, by rw [wset_ne (by omega), a3 6 (by omega) (by omega)]; exact hr, by rw [wset_same, upd_s, t8, nI_add], a3.w.tr ⟨fun k k0 _ _ _ => wset_ne k0, fun j hj => by rw [wset_same, upd_n hj]⟩⟩
      rcases (show q = 0 ∨ q = 1 ∨ q = 2 by omega) with rfl | rfl | rfl
      · obtain ⟨w2, n1, n2, n3, n4, n5⟩ := nx 0
        obtain ⟨w', f1, f2, f3, f4⟩ := ih n (k + 1) a (t + 0) T1 w2 hd2 (by omega) (by omega) (by omega) n2 I1 (by rw [hf.2.2.2.2.1]; exact hpn) (by rw [hf.1]; exact hpa) hkn1 n3 n4
        rw [if_pos (show ¬ toldR 0 = nI 1 by decide), m_X8_fetches_j145, lt_eq, if_pos (show toldR 0 = 0 by decide), m_X8_fetches_j162, n1, lt_eq, m_X8_fetches_j166, nI_add, nI_add]
        exact ⟨w', f1, f2, f3, n5.tr f4⟩
      · obtain ⟨w2, n1, n2, n3, n4, n5⟩ := nx 1
        obtain ⟨w', f1, f2, f3, f4⟩ := ih n (k + 1) (a + 1) (t + 1) T1 w2 hd2 (by omega) (by omega) (by omega) n2 I1 (by rw [hf.2.2.2.2.1]; exact hpn) (by rw [hf.1]; exact hpa) hkn1 n3 n4
        rw [if_neg (show ¬ ¬ toldR 1 = nI 1 by decide), m_X8_fetches_j145, lt_eq, if_neg (show ¬ toldR 1 = 0 by decide), m_X8_fetches_j162, n1, lt_eq, m_X8_fetches_j166, nI_add, nI_add]
        refine ⟨w', ?_, f2, ?_, n5.tr f4⟩
        · rw [f1, if_pos rfl]; congr 3; omega
        · rw [f3, if_pos rfl, if_neg (by omega)]; congr 1; omega
      · obtain ⟨w2, n1, n2, n3, n4, n5⟩ := nx 1
        obtain ⟨w', f1, f2, f3, f4⟩ := ih n (k + 1) a (t + 1) T1 w2 hd2 (by omega) (by omega) (by omega) n2 I1 (by rw [hf.2.2.2.2.1]; exact hpn) (by rw [hf.1]; exact hpa) hkn1 n3 n4
        rw [if_pos (show ¬ toldR 2 = nI 1 by decide), m_X8_fetches_j145, lt_eq, if_neg (show ¬ toldR 2 = 0 by decide), m_X8_fetches_j162, n1, lt_eq, m_X8_fetches_j166, nI_add, nI_add]
        refine ⟨w', f1, f2, ?_, n5.tr f4⟩
        rw [f3, if_neg (by omega), if_pos rfl]; congr 1; omega
    · rw [if_neg g, if_pos (by decide), m_X8_fetches_j166, nI_add, if_neg g]
      exact ih n (k + 1) a t T w hd2 (by omega) (by omega) (by omega) h I hpn hpa hkn hr ht
theorem r_fetches (h : RepR T (w 1)) (I : InvT T) {p t : Nat} (h1 : 1 ≤ p) (hp : p < tt_nu T 0) (ht : w 0 8 = nI t) : ∃ w', m_X8_fetches (nI p) w = some (nI (fillL p (tt_pa T p) (gapO T p 4) T).1, w') ∧ RepR (fillL p (tt_pa T p) (gapO T p 4) T).2.2 (w' 1) ∧ w' 0 8 = nI (t + ((fillL p (tt_pa T p) (gapO T p 4) T).1 + (fillL p (tt_pa T p) (gapO T p 4) T).2.1)) ∧ FrW w w' := by
  have hnp := it_np I.B
  have hpa := I.2.2.2.1.2 p h1 (by omega)
  have hF := FUb
  obtain ⟨w1, a1, a2, a3⟩ := r_f_L4 h (p := p) (by omega) (fun x2_1 w2 =>
    if ib ((nI 7) + nI p) 1423 then
      lt ((w2 1 ((nI 7) + nI p).toNatClampNeg)) fun x4_4 =>
      m_X8_fetches_L82 (nI p) x2_1 x4_4 FU (nI 0) (nI 0) w2
    else none)
  have hl := wanO_len T p 4
  have r1 : RepR T (w1 1) := by rw [a2 1 (by omega)]; exact h
  obtain ⟨w', f1, f2, f3, f4⟩ := r_f_L82 h1 (by omega) (W := wanO T p 4) (by omega) (fun u hu => by
    obtain ⟨o, v, a, b, c, d⟩ := wanO_mem hu
    exact ⟨o, v, b, a, c, d⟩) (tt_kn T) (P := tt_pa T p) (by omega) (by omega) (fun _ _ _ => trivial) (wanO T p 4) FU 0 0 t T w1 rfl (Nat.zero_le _) (by omega) (by omega) r1 I hp rfl (fun _ _ => rfl) a3 (by rw [a2 0 (by omega)]; exact ht)
  have ef : (wanO T p 4).filter (fun u => tt_kn T (4 * tt_pa T p + u / 100) (u % 100)) = gapO T p 4 := wanO_f T p 4
  rw [ef] at f1 f2 f3
  rw [Nat.zero_add] at f1
  refine ⟨w', ?_, f2, f3, FrW.tr (w1 := w1) ⟨fun k _ _ _ k6 => a2 k k6, fun j _ => by rw [a2 0 (by omega)]⟩ f4⟩
  rw [m_X8_fetches, a1, nI_add, if_pos (ib_n (by omega) (by omega)), nI_clamp (by omega), rr_pa r1 h1 (by omega), lt_eq]
  exact f1
theorem r_a_L31 (h : RepR T (w 1)) (I : InvT T) {p L : Nat} (hp : p < 8) (hL : L ≤ dep T 8 p) (x1 : Int32) (kx : Int32 → Wd → Option (Int32 × Wd)) : ∀ (d n i : Nat), i + d + L = dep T 8 p → d < n → m_X8_asks_L31 x1 (nI L) kx n (nI (itN (tt_pa T) i p)) w = kx (nI (itN (tt_pa T) (dep T 8 p - L) p)) w := by
  have hpo := it_paOk I
  have hdl := dep_le hpo p hp
  intro d
  induction d with
  | zero =>
    intro n i hi hn
    obtain ⟨n, rfl⟩ : ∃ m, n = m + 1 := ⟨n - 1, by omega⟩
    have hl := itN_le hpo hp i
    rw [m_X8_asks_L31, r_depth h I (by omega), b_b, dep_it hpo hp i (by omega), if_pos (by rw [z_le (by omega) (by omega)]; omega), show dep T 8 p - L = i by omega]
  | succ d ih =>
    intro n i hi hn
    obtain ⟨n, rfl⟩ : ∃ m, n = m + 1 := ⟨n - 1, by omega⟩
    have hl := itN_le hpo hp i
    have hpos := it_pos hpo hp (i := i) (by omega)
    rw [m_X8_asks_L31, r_depth h I (by omega), b_b, dep_it hpo hp i (by omega), if_neg (by rw [z_le (by omega) (by omega)]; omega), nI_add, if_pos (ib_n (by omega) (by omega)), nI_clamp (by omega), rr_pa h hpos (by omega), lt_eq]
    exact ih n (i + 1) (by omega) (by omega)
theorem fillS_ok {s : AS} (I : InvT s.2.2.2) {k : Nat} (hk : k < 8) : InvT (fillS k s).2.2.2 ∧ Fx s.2.2.2 (fillS k s).2.2.2 := by
  obtain ⟨a, b, -⟩ := fillL_ok k (tt_pa s.2.2.2 k) hk (gapO s.2.2.2 k 4) s.2.2.2 I (gapO_up I hk)
  exact ⟨a, b⟩
theorem r_a_L19 {T0 : TT} (I0 : InvT T0) {p : Nat} (h1 : 1 ≤ p) (hp : p < tt_nu T0 0) (kx : Int32 → Wd → Option (Int32 × Wd)) : ∀ (d n L : Nat) (s : AS) (w : Wd), L + d = dep T0 8 p → d < n → s = askC (tt_pa T0) 8 (itN (tt_pa T0) (dep T0 8 p - L) p) (0, 0, 0, T0) → RepR s.2.2.2 (w 1) → InvT s.2.2.2 → Fx T0 s.2.2.2 → w 0 8 = nI (s.1 + s.2.1) → ∃ w', m_X8_asks_L19 (nI p) kx n (nI s.2.2.1) (nI (L + 1)) w = kx (nI (askC (tt_pa T0) 8 p (0, 0, 0, T0)).2.2.1) w' ∧ RepR (askC (tt_pa T0) 8 p (0, 0, 0, T0)).2.2.2 (w' 1) ∧ w' 0 8 = nI ((askC (tt_pa T0) 8 p (0, 0, 0, T0)).1 + (askC (tt_pa T0) 8 p (0, 0, 0, T0)).2.1) ∧ FrW w w' := by
  have hpo := it_paOk I0
  have hnp := it_np I0.B
  have hdl := dep_le hpo p (by omega)
  have hF := FUb
  intro d
  induction d with
  | zero =>
    intro n L s w hL hn hs h I F ht
    obtain ⟨n, rfl⟩ : ∃ m, n = m + 1 := ⟨n - 1, by omega⟩
    rw [show dep T0 8 p - L = 0 by omega] at hs
    change s = askC (tt_pa T0) 8 p (0, 0, 0, T0) at hs
    rw [← hs]
    refine ⟨w, ?_, h, ht, FrW.rf⟩
    have hd : dep s.2.2.2 8 p = dep T0 8 p := by
      have : ∀ n a, dep s.2.2.2 n a = dep T0 n a := by
        intro n
        induction n with
        | zero => intro a; rfl
        | succ n ih => intro a; rw [dep, dep, F.1, ih]
      exact this 8 p
    rw [m_X8_asks_L19, r_depth h I (by omega), b_b, hd, if_pos (by rw [z_lt (by omega) (by omega)]; omega)]
  | succ d ih =>
    intro n L s w hL hn hs h I F ht
    obtain ⟨n, rfl⟩ : ∃ m, n = m + 1 := ⟨n - 1, by omega⟩
    have hd : dep s.2.2.2 8 p = dep T0 8 p := by
      have : ∀ n a, dep s.2.2.2 n a = dep T0 n a := by
        intro n
        induction n with
        | zero => intro a; rfl
        | succ n ih => intro a; rw [dep, dep, F.1, ih]
      exact this 8 p
    have k31 := r_a_L31 h I (p := p) (L := L + 1) (by omega) (by rw [hd]; omega) (nI p) (fun x4_2 w3 =>
      (m_X8_fetches x4_2 w3).bind fun o4 =>
      (m_X8_asks_L19 (nI p) kx n) o4.1 (nI (L + 1) + (nI 1)) o4.2) (dep T0 8 p - (L + 1)) FU 0 (by rw [hd]; omega) (by omega)
    rw [hd, F.1] at k31
    have hpos := it_pos hpo (p := p) (i := dep T0 8 p - (L + 1)) (by omega) (by omega)
    have hle := itN_le hpo (show p < 8 by omega) (dep T0 8 p - (L + 1))
    have hpa2 : tt_pa T0 (itN (tt_pa T0) (dep T0 8 p - (L + 1)) p) = itN (tt_pa T0) (dep T0 8 p - L) p := by
      show itN (tt_pa T0) (dep T0 8 p - (L + 1) + 1) p = _
      rw [show dep T0 8 p - (L + 1) + 1 = dep T0 8 p - L by omega]
    have step : askC (tt_pa T0) 8 (itN (tt_pa T0) (dep T0 8 p - (L + 1)) p) (0, 0, 0, T0) = fillS (itN (tt_pa T0) (dep T0 8 p - (L + 1)) p) s := by
      rw [askC_step hpo _ hpos (by omega), hpa2, ← hs]
    obtain ⟨w1, a1, a2, a3, a4⟩ := r_fetches h I (p := itN (tt_pa T0) (dep T0 8 p - (L + 1)) p) hpos (by rw [F.2.2.2.2.1]; omega) ht
    have ok := fillS_ok I (k := itN (tt_pa T0) (dep T0 8 p - (L + 1)) p) (by omega)
    obtain ⟨w', f1, f2, f3, f4⟩ := ih n (L + 1) (fillS (itN (tt_pa T0) (dep T0 8 p - (L + 1)) p) s) w1 (by omega) (by omega) step.symm a2 ok.1 (F.tr ok.2) (by
      rw [a3]
      show nI _ = nI (s.1 + _ + (s.2.1 + _))
      congr 1
      omega)
    refine ⟨w', ?_, f2, f3, a4.tr f4⟩
    rw [m_X8_asks_L19, r_depth h I (by omega), b_b, hd, if_neg (by rw [z_lt (by omega) (by omega)]; omega)]
    change m_X8_asks_L31 (nI p) (nI (L + 1)) _ FU (nI p) w = _ at k31
    rw [k31, a1, b_b, nI_add]
    exact f1
theorem r_asks (h : RepR T (w 1)) (I : InvT T) (x : Int32) : ∃ w', m_X8_asks x w = some ((sp_ask T (dn x)).1, w') ∧ RepR (sp_ask T (dn x)).2 (w' 1) ∧ FrW w w' := by
  have IB := I.B
  have hnp := it_np IB
  rw [m_X8_asks, r_isChild h IB, b_b]
  by_cases hp : 1 ≤ dn x ∧ dn x < tt_nu T 0
  · have ex := dn_lt hp.2 (by omega)
    generalize dn x = p at *
    subst ex
    have hpo := it_paOk I
    have he := it_end hpo (p := p) (by omega)
    have hF := FUb
    have hdl := dep_le hpo p (by omega)
    have ch := askA_chain I (p := p) hp.1 (by omega)
    have ok := askL_ok (p := p) p 1 (0, 0, 0, T) (by omega) I
    have ok1 : (askA T p).1 ≤ 0 + 96 * p := ok.2.2.1
    have ok2 : (askA T p).2.1 ≤ 0 + 96 * p := ok.2.2.2.1
    have es : sp_ask T p = (if (askA T p).1 = 0 ∧ (askA T p).2.1 = 0 then -9 else nI (askA T p).2.2.1, (askA T p).2.2.2) := by rw [sp_ask, if_pos hp]
    have fr0 : FrW w (wset w 0 8 (nI 0)) := ⟨fun k k0 _ _ _ => wset_ne k0, fun j hj => by rw [wset_same, upd_n hj]⟩
    obtain ⟨w', f1, f2, f3, f4⟩ := r_a_L19 I hp.1 hp.2 (fun x2_3 w4 => if ¬ (w4 0 8) = 0 then some (x2_3, w4) else some ((-9 : Int32), w4)) (dep T 8 p) FU 0 (0, 0, 0, T) (wset w 0 8 (nI 0)) (by omega) (by omega) (by rw [Nat.sub_zero, he, askC_z]) (by rw [wset_ne (by omega)]; exact h) I Fx.rf (by rw [wset_same, upd_s]; rfl)
    rw [← ch] at f1 f2 f3
    rw [if_pos hp, if_pos (by decide), lt_eq, es]
    refine ⟨w', ?_, f2, fr0.tr f4⟩
    have f1' : m_X8_asks_L19 (nI p) (fun x2_3 w4 => if ¬ (w4 0 8) = 0 then some (x2_3, w4) else some ((-9 : Int32), w4)) FU (nI 0) (nI 1) (wset w 0 8 (nI 0)) = (if ¬ (w' 0 8) = 0 then some (nI (askA T p).2.2.1, w') else some ((-9 : Int32), w')) := f1
    rw [f1', f3]
    by_cases c : (askA T p).1 = 0 ∧ (askA T p).2.1 = 0
    · rw [if_neg (by rw [c.1, c.2]; exact fun q => q rfl), if_pos c]
    · rw [if_pos (by rw [z_eq0 (by omega)]; omega), if_neg c]
  · have e : sp_ask T (dn x) = (-1, T) := if_neg hp
    rw [if_neg hp, if_neg (by decide), e]
    exact ⟨w, rfl, h, FrW.rf⟩
end RASK
