/-! ===== ask ===== -/
def Fs (w w' : Wd) : Prop := ∀ k, 59 ≤ k → k ≠ 474 → k ≠ 475 → k ≠ 480 → k ≠ 481 → w' k = w k
theorem Fs.rf {w : Wd} : Fs w w := fun _ _ _ _ _ _ => rfl
theorem Fs.tr {w w1 w2 : Wd} (h : Fs w w1) (h2 : Fs w1 w2) : Fs w w2 := fun k a b c d e => (h2 k a b c d e).trans (h k a b c d e)
theorem Fr.fs {w w' : Wd} (h : Fr w w') : Fs w w' := fun k a b _ _ _ => h k a b
def gapc (T : TT) (p o v : Nat) : Bool := !tt_kn T (4 * p + o) v && tt_kn T (4 * tt_pa T p + o) v
def gapV (T : TT) (p o : Nat) : Nat → List Nat
  | 0 => []
  | n + 1 => gapV T p o n ++ (if gapc T p o (n + 1) then [100 * o + (n + 1)] else [])
def gapO (T : TT) (p : Nat) : Nat → List Nat
  | 0 => []
  | o + 1 => gapO T p o ++ gapV T p o (bnd (tt_kn T (4 * p + o)) 24 - 1)
def fillL (p fr : Nat) : List Nat → TT → Nat × Nat × TT
  | [], T => (0, 0, T)
  | u :: l, T => ((fillL p fr l (arrive T p fr u)).1 + (if arrTold T p fr u = 1 then 1 else 0), (fillL p fr l (arrive T p fr u)).2.1 + (if arrTold T p fr u = 2 then 1 else 0), (fillL p fr l (arrive T p fr u)).2.2)
def abv (T : TT) (k : Nat) : Nat → Nat → Bool
  | 0, _ => false
  | n + 1, a => if a = 0 then false else if tt_pa T a = k then true else abv T k n (tt_pa T a)
/-- all learned, all refused, learned by the last, state -/
abbrev AS : Type := Nat × Nat × Nat × TT
def askS (p k : Nat) (s : AS) : AS := if k = p ∨ abv s.2.2.2 k 8 p = true then (s.1 + (fillL k (tt_pa s.2.2.2 k) (gapO s.2.2.2 k 4) s.2.2.2).1, s.2.1 + (fillL k (tt_pa s.2.2.2 k) (gapO s.2.2.2 k 4) s.2.2.2).2.1, (fillL k (tt_pa s.2.2.2 k) (gapO s.2.2.2 k 4) s.2.2.2).1, (fillL k (tt_pa s.2.2.2 k) (gapO s.2.2.2 k 4) s.2.2.2).2.2) else s
def askL (p : Nat) : Nat → Nat → AS → AS
  | 0, _, s => s
  | d + 1, k, s => askL p d (k + 1) (askS p k s)
def askA (T : TT) (p : Nat) : AS := askL p p 1 (0, 0, 0, T)
def sp_ask (T : TT) (p : Nat) : Int32 × TT := if 1 ≤ p ∧ p < tt_nu T 0 then (if (askA T p).1 = 0 ∧ (askA T p).2.1 = 0 then -9 else nI (askA T p).2.2.1, (askA T p).2.2.2) else (-1, T)
theorem gapV_len (T : TT) (p o : Nat) : ∀ n, (gapV T p o n).length ≤ n := by
  intro n
  induction n with
  | zero => exact Nat.le_refl _
  | succ n ih =>
    rw [gapV, List.length_append]
    split
    · show _ + 1 ≤ n + 1; omega
    · show _ + 0 ≤ n + 1; omega
theorem gapO_len (T : TT) (p : Nat) : ∀ n, (gapO T p n).length ≤ 24 * n := by
  intro n
  induction n with
  | zero => exact Nat.le_refl _
  | succ n ih =>
    rw [gapO, List.length_append]
    have := gapV_len T p n (bnd (tt_kn T (4 * p + n)) 24 - 1)
    have := bnd_le (tt_kn T (4 * p + n)) 24
    omega
theorem gapV_mem {T : TT} {p o u : Nat} : ∀ {n}, u ∈ gapV T p o n → ∃ v, u = 100 * o + v ∧ 1 ≤ v ∧ v ≤ n ∧ gapc T p o v = true := by
  intro n
  induction n with
  | zero => intro h; simp [gapV] at h
  | succ n ih =>
    intro h
    rw [gapV] at h
    rcases List.mem_append.mp h with z | z
    · obtain ⟨v, a, b, c, d⟩ := ih z
      exact ⟨v, a, b, by omega, d⟩
    · by_cases c : gapc T p o (n + 1) = true
      · rw [if_pos c] at z
        exact ⟨n + 1, List.mem_singleton.mp z, by omega, by omega, c⟩
      · rw [if_neg c] at z; cases z
theorem gapO_mem {T : TT} {p u : Nat} : ∀ {n}, u ∈ gapO T p n → ∃ o v, o < n ∧ u = 100 * o + v ∧ 1 ≤ v ∧ v ≤ 24 ∧ gapc T p o v = true := by
  intro n
  induction n with
  | zero => intro h; simp [gapO] at h
  | succ n ih =>
    intro h
    rw [gapO] at h
    rcases List.mem_append.mp h with z | z
    · obtain ⟨o, v, a, b⟩ := ih z
      exact ⟨o, v, by omega, b⟩
    · obtain ⟨v, a, b, c, d⟩ := gapV_mem z
      have := bnd_le (tt_kn T (4 * p + n)) 24
      exact ⟨n, v, by omega, a, b, by omega, d⟩
theorem gapO_up {T : TT} (I : InvT T) {p : Nat} (hp : p < 8) : ∀ u ∈ gapO T p 4, upOk (tt_wr T) u := by
  intro u hu
  obtain ⟨o, v, ho, e, h1, h24, hg⟩ := gapO_mem hu
  have hpa := I.B.2.2.2.1 p hp
  have hk : tt_kn T (4 * tt_pa T p + o) v = true := by
    unfold gapc at hg
    exact (Bool.and_eq_true_iff.mp hg).2
  exact ⟨o, v, e, ho, h1, (I.2.2.2.2.2.2.2.2.1 _ o v hpa ho hk).2⟩
theorem fillL_ok (p fr : Nat) (hp : p < 8) : ∀ (l : List Nat) (T : TT), InvT T → (∀ u ∈ l, upOk (tt_wr T) u) → InvT (fillL p fr l T).2.2 ∧ Fx T (fillL p fr l T).2.2 ∧ (fillL p fr l T).1 + (fillL p fr l T).2.1 ≤ l.length ∧ tt_nu (fillL p fr l T).2.2 3 = tt_nu T 3 + (fillL p fr l T).2.1 := by
  intro l
  induction l with
  | nil => intro T I _; exact ⟨I, Fx.rf, Nat.le_refl _, rfl⟩
  | cons u l ih =>
    intro T I hu
    have hf := arrive_fx T hp fr u
    have I1 := arrive_inv I (p := p) (fr := fr) hp (hu u List.mem_cons_self)
    have h3 := arrive_nu3 T p fr u
    obtain ⟨a, b, c, d⟩ := ih (arrive T p fr u) I1 (fun x hx => by rw [hf.2.2.1]; exact hu x (List.mem_cons_of_mem _ hx))
    rw [fillL]
    refine ⟨a, hf.tr b, ?_, ?_⟩
    · show _ + _ + (_ + _) ≤ l.length + 1
      split <;> split <;> omega
    · show tt_nu (fillL p fr l (arrive T p fr u)).2.2 3 = tt_nu T 3 + (_ + _)
      rw [d, h3]; omega
theorem askS_ok {p k : Nat} (hk : k < 8) {s : AS} (I : InvT s.2.2.2) : InvT (askS p k s).2.2.2 ∧ Fx s.2.2.2 (askS p k s).2.2.2 ∧ (askS p k s).1 ≤ s.1 + 96 ∧ (askS p k s).2.1 ≤ s.2.1 + 96 ∧ ((askS p k s).2.2.1 ≤ s.2.2.1 ∨ (askS p k s).2.2.1 ≤ 96) ∧ tt_nu (askS p k s).2.2.2 3 + s.2.1 = tt_nu s.2.2.2 3 + (askS p k s).2.1 := by
  unfold askS
  by_cases c : k = p ∨ abv s.2.2.2 k 8 p = true
  · rw [if_pos c]
    obtain ⟨a, b, e, d⟩ := fillL_ok k (tt_pa s.2.2.2 k) hk (gapO s.2.2.2 k 4) s.2.2.2 I (gapO_up I hk)
    have hl := gapO_len s.2.2.2 k 4
    refine ⟨a, b, ?_, ?_, ?_, ?_⟩
    · show s.1 + _ ≤ _; omega
    · show s.2.1 + _ ≤ _; omega
    · right; show (fillL k (tt_pa s.2.2.2 k) (gapO s.2.2.2 k 4) s.2.2.2).1 ≤ 96; omega
    · show tt_nu (fillL k (tt_pa s.2.2.2 k) (gapO s.2.2.2 k 4) s.2.2.2).2.2 3 + s.2.1 = _ + (s.2.1 + (fillL k (tt_pa s.2.2.2 k) (gapO s.2.2.2 k 4) s.2.2.2).2.1)
      rw [d]; omega
  · rw [if_neg c]
    exact ⟨I, Fx.rf, by omega, by omega, Or.inl (Nat.le_refl _), rfl⟩
theorem askL_ok {p : Nat} : ∀ (d k : Nat) (s : AS), k + d ≤ 8 → InvT s.2.2.2 → InvT (askL p d k s).2.2.2 ∧ Fx s.2.2.2 (askL p d k s).2.2.2 ∧ (askL p d k s).1 ≤ s.1 + 96 * d ∧ (askL p d k s).2.1 ≤ s.2.1 + 96 * d ∧ ((askL p d k s).2.2.1 ≤ s.2.2.1 ∨ (askL p d k s).2.2.1 ≤ 96) ∧ tt_nu (askL p d k s).2.2.2 3 + s.2.1 = tt_nu s.2.2.2 3 + (askL p d k s).2.1 := by
  intro d
  induction d with
  | zero => intro k s _ I; exact ⟨I, Fx.rf, Nat.le_refl _, Nat.le_refl _, Or.inl (Nat.le_refl _), rfl⟩
  | succ d ih =>
    intro k s hk I
    obtain ⟨a1, a2, a3, a4, a5, a6⟩ := askS_ok (p := p) (k := k) (by omega) I
    rw [askL]
    obtain ⟨b1, b2, b3, b4, b5, b6⟩ := ih (k + 1) (askS p k s) (by omega) a1
    exact ⟨b1, a2.tr b2, by omega, by omega, by omega, by omega⟩
section ASK
variable {T : TT} {w : Wd}
theorem sp_ask_inv (I : InvT T) (p : Nat) : InvT (sp_ask T p).2 := by
  unfold sp_ask
  split
  · rename_i c
    have := I.1
    exact (askL_ok p 1 (0, 0, 0, T) (by omega) I).1
  · exact I
theorem rc_ge {w' : Wd} (h : RepC 0 T w) (hf : ∀ k, k < 472 → w' k = w k) : RepC 0 T w' := rc_frame (by omega) h hf
theorem e_isAbove_L (h : RepC 0 T w) (I : InvT T) {k : Nat} (hk : k < 8) : ∀ (d n s a : Nat), s + d = 8 → d < n → a < 8 → m_X5_isAbove_L5 (nI k) w n (nI a) (nI s) = some (nI (if abv T k d a then 1 else 0)) := by
  intro d
  induction d with
  | zero =>
    intro n s a hs hn ha
    obtain ⟨n, rfl⟩ : ∃ m, n = m + 1 := ⟨n - 1, by omega⟩
    rw [m_X5_isAbove_L5]
    by_cases c : a = 0
    · rw [if_pos (by rw [c]; rfl)]; rfl
    · rw [if_neg (by rw [z_eq0 (by omega)]; exact c), if_pos (by rw [z_le (by omega) (by omega)]; omega)]; rfl
  | succ d ih =>
    intro n s a hs hn ha
    obtain ⟨n, rfl⟩ : ∃ m, n = m + 1 := ⟨n - 1, by omega⟩
    rw [m_X5_isAbove_L5, abv]
    by_cases c : a = 0
    · rw [if_pos (by rw [c]; rfl), if_pos c]; rfl
    · have hpa := I.B.2.2.2.1 a ha
      rw [if_neg (by rw [z_eq0 (by omega)]; exact c), if_neg (by rw [z_le (by omega) (by omega)]; omega), if_neg c, e_parentOf h ha, b_b]
      by_cases g : tt_pa T a = k
      · rw [if_neg (by rw [g]; exact fun q => q rfl), if_pos g]; rfl
      · rw [if_pos (by rw [z_eq (by omega) (by omega)]; exact g), if_neg g, nI_add, ih n (s + 1) (tt_pa T a) (by omega) (by omega) hpa]
theorem e_gapV (h : RepC 0 T w) (I : InvT T) {p o : Nat} (hp : p < 8) (ho : o < 4) (kx : Wd → Option Wd) : ∀ (d n v : Nat) (l : List Nat) (w' : Wd), v + d = bnd (tt_kn T (4 * p + o)) 24 - 1 → d < n → l.length + d < 96 → (∀ k, k ≠ 480 → k ≠ 481 → w' k = w k) → RLn (w' 480 1) (w' 481) (l ++ gapV T p o v) → (l ++ gapV T p o v).length ≤ l.length + v → l.length + v + d < 96 → ∃ w2, m_X3_findGapsToFill_L40 (nI p) (nI (tt_pa T p)) (nI o) (nI (bnd (tt_kn T (4 * p + o)) 24)) kx n (nI (v + 1)) w' = kx w2 ∧ (∀ k, k ≠ 480 → k ≠ 481 → w2 k = w k) ∧ RLn (w2 480 1) (w2 481) (l ++ gapV T p o (bnd (tt_kn T (4 * p + o)) 24 - 1)) := by
  have hb := bnd_le (tt_kn T (4 * p + o)) 24
  have hpa := I.B.2.2.2.1 p hp
  intro d
  induction d with
  | zero =>
    intro n v l w' hv hn hl hf hr hle hlb
    obtain ⟨n, rfl⟩ : ∃ m, n = m + 1 := ⟨n - 1, by omega⟩
    refine ⟨w', by rw [m_X3_findGapsToFill_L40, if_pos (by rw [z_le (by omega) (by omega)]; omega)], hf, ?_⟩
    rw [← hv]; exact hr
  | succ d ih =>
    intro n v l w' hv hn hl hf hr hle hlb
    obtain ⟨n, rfl⟩ : ∃ m, n = m + 1 := ⟨n - 1, by omega⟩
    have h' : RepC 0 T w' := rc_ge h (fun k hk => hf k (by omega) (by omega))
    rw [m_X3_findGapsToFill_L40, if_neg (by rw [z_le (by omega) (by omega)]; omega), e_knows h' hp ho (by omega) (by omega), b_b]
    by_cases c : tt_kn T (4 * p + o) (v + 1) = true
    · rw [if_pos c, if_pos (by decide), m_X3_findGapsToFill_j89, nI_add]
      have eg : gapV T p o (v + 1) = gapV T p o v := by
        rw [gapV, if_neg (by unfold gapc; rw [c]; simp), List.append_nil]
      exact ih n (v + 1) l w' (by omega) (by omega) (by omega) hf (by rw [eg]; exact hr) (by rw [eg]; omega) (by omega)
    · rw [if_neg c, if_neg (by decide), e_knows h' hpa ho (by omega) (by omega), b_b]
      by_cases g : tt_kn T (4 * tt_pa T p + o) (v + 1) = true
      · have eg : gapV T p o (v + 1) = gapV T p o v ++ [100 * o + (v + 1)] := by
          rw [gapV, if_pos (by unfold gapc; rw [g]; simp only [Bool.not_eq_true] at c; rw [c]; rfl)]
        rw [if_pos g, if_neg (by decide), e_updateOf, b_b]
        obtain ⟨w3, a1, a2, a3⟩ := e_app (q := 480) hr (by show _ < 96; omega) (by show 96 < 1000; omega) (100 * o + (v + 1))
        rw [a1, b_b, m_X3_findGapsToFill_j89, nI_add]
        refine ih n (v + 1) l w3 (by omega) (by omega) (by omega) (fun k h1 h2 => by rw [a3 k h1 h2]; exact hf k h1 h2) (by rw [eg, ← List.append_assoc]; exact a2) ?_ (by omega)
        rw [eg, ← List.append_assoc, List.length_append]
        show _ + 1 ≤ _
        omega
      · have eg : gapV T p o (v + 1) = gapV T p o v := by
          rw [gapV, if_neg (by unfold gapc; simp only [Bool.not_eq_true] at g; rw [g]; simp), List.append_nil]
        rw [if_neg g, if_pos (by decide), m_X3_findGapsToFill_j89, nI_add]
        exact ih n (v + 1) l w' (by omega) (by omega) (by omega) hf (by rw [eg]; exact hr) (by rw [eg]; omega) (by omega)
theorem e_gap_step (h : RepC 0 T w) (I : InvT T) {p o : Nat} (hp : p < 8) (ho : o < 4) (n : Nat) {w' : Wd} (hf : ∀ k, k ≠ 480 → k ≠ 481 → w' k = w k) (hr : RLn (w' 480 1) (w' 481) (gapO T p o)) : ∃ w2, m_X3_findGapsToFill_L18 (nI p) (nI (tt_pa T p)) (n + 1) (nI o) w' = m_X3_findGapsToFill_L18 (nI p) (nI (tt_pa T p)) n (nI (o + 1)) w2 ∧ (∀ k, k ≠ 480 → k ≠ 481 → w2 k = w k) ∧ RLn (w2 480 1) (w2 481) (gapO T p (o + 1)) := by
  have h' : RepC 0 T w' := rc_ge h (fun k hk => hf k (by omega) (by omega))
  have hb := bnd_le (tt_kn T (4 * p + o)) 24
  have hl := gapO_len T p o
  have hF := FUb
  rw [m_X3_findGapsToFill_L18, if_neg (by rw [z_le (by omega) (by omega)]; omega), e_knownOf h' hp ho, b_b, e_greatest, b_b, gapO]
  obtain ⟨w2, a1, a2, a3⟩ := e_gapV h I hp ho (fun w3 => (m_X3_findGapsToFill_L18 (nI p) (nI (tt_pa T p)) n) (nI o + nI 1) w3) (bnd (tt_kn T (4 * p + o)) 24 - 1) FU 0 (gapO T p o) w' (by omega) (by omega) (by omega) hf (by rw [gapV, List.append_nil]; exact hr) (by rw [gapV, List.append_nil]; omega) (by omega)
  refine ⟨w2, ?_, a2, a3⟩
  rw [show nI 1 = nI (0 + 1) from rfl, a1, nI_add]
theorem e_findGaps (h : RepC 0 T w) (I : InvT T) {p : Nat} (hp : p < 8) : ∃ w', m_X3_findGapsToFill (nI p) w = some w' ∧ (∀ k, k ≠ 480 → k ≠ 481 → w' k = w k) ∧ RLn (w' 480 1) (w' 481) (gapO T p 4) := by
  obtain ⟨w1, a1, a2, a3⟩ := e_clear w 480
  obtain ⟨n, en, hn⟩ := FU5
  rw [m_X3_findGapsToFill, e_parentOf h hp, b_b, a1, b_b, en]
  obtain ⟨w2, b1, b2, b3⟩ := e_gap_step h I hp (o := 0) (by omega) (n + 4) (fun k h1 _ => a3 k h1) a2
  obtain ⟨w3, b4, b5, b6⟩ := e_gap_step h I hp (o := 1) (by omega) (n + 3) b2 b3
  obtain ⟨w4, b7, b8, b9⟩ := e_gap_step h I hp (o := 2) (by omega) (n + 2) b5 b6
  obtain ⟨w5, c1, c2, c3⟩ := e_gap_step h I hp (o := 3) (by omega) (n + 1) b8 b9
  refine ⟨w5, ?_, c2, c3⟩
  rw [b1, b4, b7, c1, m_X3_findGapsToFill_L18, if_pos (by rw [z_le (by omega) (by omega)]; omega)]
theorem e_fill_L {p fr : Nat} (hp : p < 8) (hfr : fr < 8) (x1 x2 x3 : Int32) {L : List Nat} (hL : L.length ≤ 96) (kx : Int32 → Wd → Option (Int32 × Wd)) : ∀ (l : List Nat) (n k a : Nat) (T : TT) (w : Wd), L.drop k = l → k ≤ L.length → l.length < n → a + l.length < 1000 → RepC 0 T w → InvT T → p < tt_nu T 0 → tt_pa T p = fr → (∀ u ∈ l, upOk (tt_wr T) u) → RLn (w 480 1) (w 481) L → ∃ w', m_X3_askUpward_L73 x1 x2 x3 (nI p) kx n (nI a) (nI k) w = kx (nI (a + (fillL p fr l T).1)) w' ∧ RepC 0 (fillL p fr l T).2.2 w' ∧ Fr w w' := by
  intro l
  induction l with
  | nil =>
    intro n k a T w hd hk hn ha h I hpn hpa hu hr
    obtain ⟨n, rfl⟩ : ∃ m, n = m + 1 := ⟨n - 1, by simp at hn; omega⟩
    have hlen : L.length ≤ k := by
      have := congrArg List.length hd
      simp at this
      omega
    refine ⟨w, ?_, h, Fr.rf⟩
    rw [m_X3_askUpward_L73, e_len (q := 480) hr, b_b, if_pos (by rw [z_le (by omega) (by omega)]; omega)]
    rfl
  | cons u l ih =>
    intro n k a T w hd hk hn ha h I hpn hpa hu hr
    obtain ⟨n, rfl⟩ : ∃ m, n = m + 1 := ⟨n - 1, by simp at hn; omega⟩
    have hlt : k < L.length := by
      have := congrArg List.length hd
      simp at this
      omega
    have hdd : L[k] :: L.drop (k + 1) = u :: l := by rw [← hd]; exact (List.drop_eq_getElem_cons hlt).symm
    have hd1 : L[k] = u := (List.cons.inj hdd).1
    have hd2 : L.drop (k + 1) = l := (List.cons.inj hdd).2
    have h0 := e_at (q := 480) hr (by show _ ≤ 96; omega) (by show 96 < 1000; omega) hlt
    rw [hd1] at h0
    obtain ⟨w1, a1, a2, a3⟩ := e_arrive h I (p := p) (fr := fr) hpn (hu u List.mem_cons_self)
    have I1 := arrive_inv I (p := p) (fr := fr) hp (hu u List.mem_cons_self)
    have hf := arrive_fx T hp fr u
    rw [m_X3_askUpward_L73, e_len (q := 480) hr, b_b, if_neg (by rw [z_le (by omega) (by omega)]; omega), e_parentOf h hp, b_b, h0, b_b, hpa, show nI fr = frC fr from (if_pos hfr).symm, a1, b_b]
    dsimp only
    rw [List.length_cons] at hn ha
    have hu' : ∀ x ∈ l, upOk (tt_wr (arrive T p fr u)) x := fun x hx => by rw [hf.2.2.1]; exact hu x (List.mem_cons_of_mem _ hx)
    have hr' : RLn (w1 480 1) (w1 481) L := by rw [a3 480 (by omega) (by omega), a3 481 (by omega) (by omega)]; exact hr
    rw [fillL]
    by_cases g : arrTold T p fr u = 1
    · rw [if_pos g, if_neg (by decide), m_X3_askUpward_j115, nI_add, nI_add]
      obtain ⟨w', f1, f2, f3⟩ := ih n (k + 1) (a + 1) _ w1 hd2 (by omega) (by omega) (by omega) a2 I1 (by rw [hf.2.2.2.2.1]; exact hpn) (by rw [hf.1]; exact hpa) hu' hr'
      exact ⟨w', by rw [f1, show a + 1 + (fillL p fr l (arrive T p fr u)).1 = a + ((fillL p fr l (arrive T p fr u)).1 + 1) by omega], f2, a3.tr f3⟩
    · rw [if_neg g, if_pos (by decide), m_X3_askUpward_j115, nI_add]
      obtain ⟨w', f1, f2, f3⟩ := ih n (k + 1) a _ w1 hd2 (by omega) (by omega) (by omega) a2 I1 (by rw [hf.2.2.2.2.1]; exact hpn) (by rw [hf.1]; exact hpa) hu' hr'
      exact ⟨w', f1, f2, a3.tr f3⟩
theorem e_ask_L {p : Nat} (hp : p < 8) (h1 : 1 ≤ p) (x2 : Int32) (kx : Int32 → Int32 → Wd → Option (Int32 × Wd)) : ∀ (d n k : Nat) (s : AS) (w : Wd), k + d = p + 1 → d < n → 1 ≤ k → s.1 ≤ 96 * k → RepC 0 s.2.2.2 w → InvT s.2.2.2 → p < tt_nu s.2.2.2 0 → ∃ w', m_X3_askUpward_L29 (nI p) x2 kx n (nI s.1) (nI s.2.2.1) (nI k) w = kx (nI (askL p d k s).1) (nI (askL p d k s).2.2.1) w' ∧ RepC 0 (askL p d k s).2.2.2 w' ∧ Fs w w' := by
  intro d
  induction d with
  | zero =>
    intro n k s w hk hn hk1 hs h I hpn
    obtain ⟨n, rfl⟩ : ∃ m, n = m + 1 := ⟨n - 1, by omega⟩
    refine ⟨w, ?_, h, Fs.rf⟩
    by_cases g8 : 8 ≤ k
    · rw [m_X3_askUpward_L29, if_pos (by rw [z_le (by omega) (by omega)]; omega)]
      rfl
    · rw [m_X3_askUpward_L29, if_neg (by rw [z_le (by omega) (by omega)]; omega), if_pos (by rw [z_lt (by omega) (by omega)]; omega)]
      rfl
  | succ d ih =>
    intro n k s w hk hn hk1 hs h I hpn
    obtain ⟨n, rfl⟩ : ∃ m, n = m + 1 := ⟨n - 1, by omega⟩
    have hnp := it_np I.B
    have ok := askS_ok (p := p) (k := k) (by omega) I
    rw [m_X3_askUpward_L29, if_neg (by rw [z_le (by omega) (by omega)]; omega), if_neg (by rw [z_lt (by omega) (by omega)]; omega), askL]
    have yes : ∀ (c : k = p ∨ abv s.2.2.2 k 8 p = true), ∃ w', m_X3_askUpward_j61 (nI p) x2 (nI s.1) (nI k) w (m_X3_askUpward_L29 (nI p) x2 kx n) kx = kx (nI (askL p d (k + 1) (askS p k s)).1) (nI (askL p d (k + 1) (askS p k s)).2.2.1) w' ∧ RepC 0 (askL p d (k + 1) (askS p k s)).2.2.2 w' ∧ Fs w w' := by
      intro c
      have es : askS p k s = (s.1 + (fillL k (tt_pa s.2.2.2 k) (gapO s.2.2.2 k 4) s.2.2.2).1, s.2.1 + (fillL k (tt_pa s.2.2.2 k) (gapO s.2.2.2 k 4) s.2.2.2).2.1, (fillL k (tt_pa s.2.2.2 k) (gapO s.2.2.2 k 4) s.2.2.2).1, (fillL k (tt_pa s.2.2.2 k) (gapO s.2.2.2 k 4) s.2.2.2).2.2) := by rw [askS, if_pos c]
      obtain ⟨w1, a1, a2, a3⟩ := e_findGaps h I (p := k) (by omega)
      have hl := gapO_len s.2.2.2 k 4
      have hF := FUb
      have hpa := I.B.2.2.2.1 k (by omega)
      obtain ⟨w2, b1, b2, b3⟩ := e_fill_L (p := k) (fr := tt_pa s.2.2.2 k) (by omega) hpa (nI p) x2 (nI s.1) (L := gapO s.2.2.2 k 4) (by omega) (fun x4_2 w3 => lt (nI s.1 + x4_2) fun x3_4 => m_X3_askUpward_j126 (nI p) x2 x3_4 x4_2 (nI k) w3 (m_X3_askUpward_L29 (nI p) x2 kx n) kx) (gapO s.2.2.2 k 4) FU 0 0 s.2.2.2 w1 rfl (Nat.zero_le _) (by omega) (by omega) (rc_ge h (fun j hj => a2 j (by omega) (by omega))) I (by omega) rfl (gapO_up I (by omega)) a3
      rw [m_X3_askUpward_j61, a1, b_b]
      rw [b1, lt_eq, Nat.zero_add, m_X3_askUpward_j126, nI_add, nI_add]
      obtain ⟨w3, c1, c2, c3⟩ := ih n (k + 1) (askS p k s) w2 (by omega) (by omega) (by omega) (by omega) (by rw [es]; exact b2) ok.1 (by rw [ok.2.1.2.2.2.2.1]; exact hpn)
      rw [es] at c1
      refine ⟨w3, ?_, c2, (Fs.tr (fun j _ _ _ q1 q2 => a2 j q1 q2) b3.fs).tr c3⟩
      rw [es]; exact c1
    by_cases c : k = p
    · rw [if_pos (by rw [c])]
      exact yes (Or.inl c)
    · rw [if_neg (by rw [z_eq (by omega) (by omega)]; exact c), m_X5_isAbove, e_isAbove_L h I (k := k) (by omega) 8 FU 0 p (by omega) (by have := FUb; omega) hp, b_b]
      by_cases g : abv s.2.2.2 k 8 p = true
      · rw [if_pos g, if_neg (by decide)]
        exact yes (Or.inr g)
      · rw [if_neg g, if_pos (by decide), m_X3_askUpward_j126, nI_add]
        have es : askS p k s = s := by rw [askS, if_neg (fun q => q.elim c g)]
        rw [es]
        exact ih n (k + 1) s w (by omega) (by omega) (by omega) (by omega) h I hpn
theorem e_askUpward (h : RepC 0 T w) (I : InvT T) (x : Int32) : ∃ w', m_X3_askUpward x w = some ((sp_ask T (dn x)).1, w') ∧ RepC 0 (sp_ask T (dn x)).2 w' ∧ Fs w w' := by
  have IB := I.B
  have hnp := it_np IB
  have bad : ¬ (1 ≤ dn x ∧ dn x < tt_nu T 0) → ∃ w', some ((-1 : Int32), w) = some ((sp_ask T (dn x)).1, w') ∧ RepC 0 (sp_ask T (dn x)).2 w' ∧ Fs w w' := by
    intro hab
    have e : sp_ask T (dn x) = (-1, T) := if_neg hab
    rw [e]
    exact ⟨w, rfl, h, Fs.rf⟩
  rw [m_X3_askUpward]
  rcases z_or x with hx | ⟨p, hpp, rfl⟩
  · rw [e_hasChild_neg hx, b_b, if_neg (by decide)]
    exact bad (by rw [dn_neg hx]; omega)
  rw [dn_nI hpp] at bad ⊢
  by_cases hp : 1 ≤ p ∧ p < tt_nu T 0
  · rw [e_hasChild h IB hp.1 hp.2, b_b, if_pos (by decide), lt_eq]
    have hF := FUb
    have ok := askL_ok (p := p) p 1 (0, 0, 0, T) (by omega) I
    obtain ⟨w', a1, a2, a3⟩ := e_ask_L (p := p) (by omega) hp.1 (w 50 3) (fun x3_3 x4_4 w5 => m_X3_askUpward_j132 (w 50 3) x3_3 x4_4 w5) p FU 1 (0, 0, 0, T) w (by omega) (by omega) (by omega) (by omega) h I hp.2
    have es : sp_ask T p = (if (askA T p).1 = 0 ∧ (askA T p).2.1 = 0 then -9 else nI (askA T p).2.2.1, (askA T p).2.2.2) := by rw [sp_ask, if_pos hp]
    rw [es]
    refine ⟨w', ?_, a2, a3⟩
    have ok3 : tt_nu (askA T p).2.2.2 3 + 0 = tt_nu T 3 + (askA T p).2.1 := ok.2.2.2.2.2
    have ok1 : (askA T p).1 ≤ 0 + 96 * p := ok.2.2.1
    have ok2 : (askA T p).2.1 ≤ 0 + 96 * p := ok.2.2.2.1
    have a2' : RepC 0 (askA T p).2.2.2 w' := a2
    have a1' : m_X3_askUpward_L29 (nI p) (w 50 3) (fun x3_3 x4_4 w5 => m_X3_askUpward_j132 (w 50 3) x3_3 x4_4 w5) FU (nI 0) (nI 0) (nI 1) w = (if ¬ nI (askA T p).1 = 0 then some (nI (askA T p).2.2.1, w') else if ¬ (w' 50 3) = w 50 3 then some (nI (askA T p).2.2.1, w') else some ((-9 : Int32), w')) := a1
    rw [a1', rc_nu a2' (by omega), rc_nu h (by omega)]
    generalize askA T p = s at *
    by_cases c : s.1 = 0
    · rw [if_neg (by rw [c]; exact fun q => q rfl)]
      by_cases g : s.2.1 = 0
      · rw [if_neg (by rw [show tt_nu s.2.2.2 3 = tt_nu T 3 by omega]; exact fun q => q rfl), if_pos ⟨c, g⟩]
      · rw [if_pos ?_, if_neg (fun q => g q.2)]
        intro q
        rw [show tt_nu s.2.2.2 3 = tt_nu T 3 + s.2.1 by omega, ← nI_add] at q
        have q2 : nI s.2.1 = 0 := by
          have := congrArg (fun t => t - nI (tt_nu T 3)) q
          simpa [Int32.add_comm, Int32.add_sub_cancel] using this
        rw [z_eq0 (by omega)] at q2
        exact g q2
    · rw [if_pos (by rw [z_eq0 (by omega)]; exact c), if_neg (fun q => c q.1)]
  · rw [e_hasChild_no h IB (by omega) hpp, b_b, if_neg (by decide)]
    exact bad hp
end ASK
