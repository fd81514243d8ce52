/-! ===== the law's ask ===== -/
theorem bX_0 {f : Nat → Bool} : ∀ (d v : Nat), v + d = 13 → 1 ≤ v → (bX (2 * bits f 12) v = 0 ↔ ∀ x, v ≤ x → x ≤ 12 → f x = false) := by
  intro d
  induction d with
  | zero =>
    intro v hv h1
    have e : v = 13 := by omega
    subst e
    exact ⟨fun _ x h2 h3 => by omega, fun _ => bX_z f (by omega)⟩
  | succ d ih =>
    intro v hv h1
    have hs := bX_s (2 * bits f 12) v
    have ht := bX_tb f h1 (by omega)
    have hi := ih (v + 1) (by omega) (by omega)
    constructor
    · intro h x h2 h3
      by_cases c : x = v
      · subst c
        cases hf : f x with
        | false => rfl
        | true => rw [hf, if_pos rfl] at ht; omega
      · exact (hi.mp (by omega)) x (by omega) h3
    · intro h
      have a := hi.mpr (fun x h2 h3 => h x (by omega) h3)
      rw [h v (Nat.le_refl _) (by omega), if_neg (by decide)] at ht
      omega
theorem bnd_gt {f : Nat → Bool} {v : Nat} : v < bnd f 24 ↔ ∃ x, v < x ∧ x ≤ 24 ∧ f x = true := by
  have hle := bnd_le f 24
  constructor
  · intro h
    exact ⟨bnd f 24, h, hle, bnd_in f 24 (by omega)⟩
  · rintro ⟨x, h1, h2, h3⟩
    refine Nat.not_le.mp fun q => ?_
    have := bnd_out f 24 x (by omega) h2
    rw [h3] at this
    cases this
theorem ex_iff {f : Nat → Bool} (hf : ∀ v, 12 < v → f v = false) {v : Nat} (h1 : 1 ≤ v) (hv : v ≤ 12) : (0 < bX (2 * bits f 12) v ∧ bX (2 * bits f 12) v % 2 = 0) ↔ (f v = false ∧ v < bnd f 24) := by
  have ht := bX_tb f h1 hv
  have h0 := bX_0 (f := f) (13 - v) v (by omega) h1
  have hs := bX_s (2 * bits f 12) v
  have h2 := bX_0 (f := f) (12 - v) (v + 1) (by omega) (by omega)
  constructor
  · rintro ⟨a, b⟩
    have hfv : f v = false := by
      cases c : f v with
      | false => rfl
      | true => rw [c, if_pos rfl] at ht; omega
    refine ⟨hfv, bnd_gt.mpr ?_⟩
    by_cases c : ∃ x, v < x ∧ x ≤ 24 ∧ f x = true
    · exact c
    · exfalso
      have : bX (2 * bits f 12) (v + 1) = 0 := h2.mpr (fun x x1 x2 => by
        cases hx : f x with
        | false => rfl
        | true => exact absurd ⟨x, by omega, by omega, hx⟩ c)
      omega
  · rintro ⟨a, b⟩
    rw [a, if_neg (by decide)] at ht
    refine ⟨?_, ht⟩
    obtain ⟨x, x1, x2, x3⟩ := bnd_gt.mp b
    refine Nat.pos_of_ne_zero fun q => ?_
    by_cases c : x ≤ 12
    · have := h0.mp q x (by omega) c
      rw [x3] at this; cases this
    · have := hf x (by omega)
      rw [x3] at this; cases this
def gapL (T : TT) (k u : Nat) : Bool := gapc T k (u / 12) (u % 12 + 1) && decide (u % 12 + 1 < bnd (tt_kn T (4 * k + u / 12)) 24)
def glu (T : TT) (k : Nat) : Nat → Nat → List Nat
  | 0, _ => []
  | d + 1, u => (if gapL T k u = true then [100 * (u / 12) + (u % 12 + 1)] else []) ++ glu T k d (u + 1)
theorem glu_add (T : TT) (k b : Nat) : ∀ (a u : Nat), glu T k (a + b) u = glu T k a u ++ glu T k b (u + a)
  | 0, u => by rw [Nat.zero_add]; rfl
  | a + 1, u => by
    rw [show a + 1 + b = (a + b) + 1 by omega, glu, glu, glu_add T k b a (u + 1), List.append_assoc, show u + 1 + a = u + (a + 1) by omega]
theorem glu_gapV (T : TT) (k o : Nat) : ∀ d, d ≤ 12 → glu T k d (12 * o) = gapV T k o (min d (bnd (tt_kn T (4 * k + o)) 24 - 1)) := by
  intro d
  induction d with
  | zero => intro _; rw [Nat.zero_min]; rfl
  | succ d ih =>
    intro hd
    have h1 : glu T k 1 (12 * o + d) = if gapL T k (12 * o + d) = true then [100 * o + (d + 1)] else [] := by
      rw [glu, glu, List.append_nil, show (12 * o + d) / 12 = o by omega, show (12 * o + d) % 12 = d by omega]
    have hg : gapL T k (12 * o + d) = (gapc T k o (d + 1) && decide (d + 1 < bnd (tt_kn T (4 * k + o)) 24)) := by
      unfold gapL
      rw [show (12 * o + d) / 12 = o by omega, show (12 * o + d) % 12 = d by omega]
    rw [glu_add T k 1 d, ih (by omega), h1, hg]
    generalize bnd (tt_kn T (4 * k + o)) 24 = B
    by_cases c : d + 1 < B
    · rw [Nat.min_eq_left (show d ≤ B - 1 by omega), Nat.min_eq_left (show d + 1 ≤ B - 1 by omega), gapV, decide_eq_true c, Bool.and_true]
    · rw [Nat.min_eq_right (show B - 1 ≤ d by omega), Nat.min_eq_right (show B - 1 ≤ d + 1 by omega), decide_eq_false c, Bool.and_false, if_neg (by decide), List.append_nil]
theorem glu_gapO {T : TT} {k : Nat} (hb : ∀ o, o < 4 → bnd (tt_kn T (4 * k + o)) 24 ≤ 12) : glu T k 48 0 = gapO T k 4 := by
  have one : ∀ o, o < 4 → glu T k 12 (12 * o) = gapV T k o (bnd (tt_kn T (4 * k + o)) 24 - 1) := by
    intro o ho
    have := hb o ho
    rw [glu_gapV T k o 12 (Nat.le_refl _), Nat.min_eq_right (by omega)]
  have s1 := glu_add T k 36 12 0
  have s2 := glu_add T k 24 12 12
  have s3 := glu_add T k 12 12 24
  have o0 := one 0 (by omega)
  have o1 := one 1 (by omega)
  have o2 := one 2 (by omega)
  have o3 := one 3 (by omega)
  rw [show glu T k 48 0 = glu T k (12 + 36) 0 from rfl, s1, show glu T k 36 (0 + 12) = glu T k (12 + 24) 12 from rfl, s2, show glu T k 24 (12 + 12) = glu T k (12 + 12) 24 from rfl, s3]
  rw [show glu T k 12 0 = glu T k 12 (12 * 0) from rfl, show glu T k 12 12 = glu T k 12 (12 * 1) from rfl, show glu T k 12 24 = glu T k 12 (12 * 2) from rfl, show glu T k 12 (24 + 12) = glu T k 12 (12 * 3) from rfl, o0, o1, o2, o3]
  simp only [gapO, List.nil_append, List.append_assoc]
theorem sml_k12 {T : TT} (S : Sml T) {p o v : Nat} (hp : p < 8) (ho : o < 4) (hv : 12 < v) : tt_kn T (4 * p + o) v = false := by
  cases c : tt_kn T (4 * p + o) v with
  | false => rfl
  | true =>
    have := (S.2.1 p o v hp ho c).2
    have := S.1 o ho
    omega
theorem sml_bnd {T : TT} (S : Sml T) {p o : Nat} (hp : p < 8) (ho : o < 4) : bnd (tt_kn T (4 * p + o)) 24 ≤ 12 := by
  refine Nat.not_lt.mp fun q => ?_
  have h := bnd_in (tt_kn T (4 * p + o)) 24 (by omega)
  rw [sml_k12 S hp ho q] at h
  cases h
theorem gapL_eq {T T0 : TT} (S : Sml T) (S0 : Sml T0) {k u : Nat} (hk : k < 8) (hu : u < 48) (hP : tt_pa T k < 8) (h1 : ∀ i, u ≤ i → i < 48 → tt_kn T (4 * k + i / 12) (i % 12 + 1) = tt_kn T0 (4 * k + i / 12) (i % 12 + 1)) (h2 : ∀ o v, o < 4 → tt_kn T (4 * tt_pa T k + o) v = tt_kn T0 (4 * tt_pa T k + o) v) (h3 : tt_pa T = tt_pa T0) : gapL T k u = gapL T0 k u := by
  have e : ∀ x, u % 12 + 1 ≤ x → tt_kn T (4 * k + u / 12) x = tt_kn T0 (4 * k + u / 12) x := by
    intro x hx
    by_cases c : x ≤ 12
    · have := h1 (12 * (u / 12) + (x - 1)) (by omega) (by omega)
      rw [show (12 * (u / 12) + (x - 1)) / 12 = u / 12 by omega, show (12 * (u / 12) + (x - 1)) % 12 + 1 = x by omega] at this
      exact this
    · rw [sml_k12 S hk (by omega) (by omega), sml_k12 S0 hk (by omega) (by omega)]
  unfold gapL gapc
  rw [e _ (Nat.le_refl _), h2 _ _ (show u / 12 < 4 by omega), ← h3]
  congr 1
  rw [decide_eq_decide, bnd_gt, bnd_gt]
  constructor
  · rintro ⟨x, a, b, c⟩; exact ⟨x, a, b, by rw [← e x (by omega)]; exact c⟩
  · rintro ⟨x, a, b, c⟩; exact ⟨x, a, b, by rw [e x (by omega)]; exact c⟩
theorem arrive_kn2 (T : TT) {p fr u o v : Nat} (hu : u / 100 < 4) (hne : ¬ (o = u / 100 ∧ v = u % 100)) : tt_kn (arrive T p fr u) (4 * p + o) v = tt_kn T (4 * p + o) v := by
  have k1 : ∀ (T : TT) (q u : Nat), tt_kn (keep T q u) = tt_kn T := by
    intro T q u
    unfold keep
    split <;> rfl
  unfold arrive
  split
  · rfl
  · split
    · rfl
    · unfold learn
      rw [(passOn_same _ p fr u).2.2.2.2.1, k1]
      show va_up (tt_kn T) (4 * p + u / 100) (va_up (tt_kn T (4 * p + u / 100)) (u % 100) true) (4 * p + o) v = _
      by_cases c : o = u / 100
      · subst c
        rw [up_s, up_n (fun q => hne ⟨rfl, q⟩)]
      · rw [up_n (by omega)]
/-- what ask leaves: the class's cells and the rows made since -/
def LFx (N : Nat) (w w' : Wd) : Prop := ∀ k, k < 490 ∨ 497 ≤ k ∧ k < N → w' k = w k
theorem LFr.x {N : Nat} {w w' : Wd} (h : LFr N w w') : LFx N w w' := fun k hk => h.row hk
theorem LFx.tr {N : Nat} {w w1 w2 : Wd} (h : LFx N w w1) (g : LFx N w1 w2) : LFx N w w2 := fun k hk => (g k hk).trans (h k hk)
theorem LFx.rf {N : Nat} {w : Wd} : LFx N w w := fun _ _ => rfl
theorem LFx.set7 {N : Nat} {w : Wd} {x : Int32} : LFx N w (wset w 490 7 x) := fun k hk => wset_ne (by omega)
section LASK
variable {T : TT} {w : Wd}
theorem l_as_L81 {T0 : TT} (S0 : Sml T0) {k P N q8 : Nat} (hN : 497 ≤ N) (h1 : 1 ≤ k) (hPk : P < k) (x11 : Int32) (kx : Int32 → Wd → Option (Int32 × Wd)) : ∀ (d n u a t : Nat) (T : TT) (w : Wd), u + d = 48 → d < n → RepL T w → LI T → k < tt_nu T 0 → tt_pa T k = P → tt_pa T = tt_pa T0 → (∀ i, u ≤ i → i < 48 → tt_kn T (4 * k + i / 12) (i % 12 + 1) = tt_kn T0 (4 * k + i / 12) (i % 12 + 1)) → (∀ o v, o < 4 → tt_kn T (4 * P + o) v = tt_kn T0 (4 * P + o) v) → w 490 7 = nI t → ∃ w', m_L_ask_L81 N q8 x11 (nI k) (nI P) kx n (nI a) (nI u) w = kx (nI (a + (fillL k P (glu T0 k d u) T).1)) w' ∧ RepL (fillL k P (glu T0 k d u) T).2.2 w' ∧ w' 490 7 = nI (t + ((fillL k P (glu T0 k d u) T).1 + (fillL k P (glu T0 k d u) T).2.1)) ∧ LFx N w w' := by
  intro d
  induction d with
  | zero =>
    intro n u a t T w hu hn h I hk hpa hpa0 hkn hpn h7
    obtain ⟨n, rfl⟩ : ∃ m, n = m + 1 := ⟨n - 1, by omega⟩
    exact ⟨w, by rw [m_L_ask_L81, if_pos (by rw [z_le (by omega) (by omega)]; omega)]; rfl, h, h7, LFx.rf⟩
  | succ d ih =>
    intro n u a t T w hu hn h I hk hpa hpa0 hkn hpn h7
    obtain ⟨n, rfl⟩ : ∃ m, n = m + 1 := ⟨n - 1, by omega⟩
    have K := I.K
    have S := inv_sml K I.2.2
    have h5 := I.2.1
    have hge : gapL T k u = gapL T0 k u := gapL_eq S S0 (by omega) (by omega) (by omega) hkn (by rw [hpa]; exact hpn) hpa0
    have hgl : gapL T k u = (gapc T k (u / 12) (u % 12 + 1) && decide (u % 12 + 1 < bnd (tt_kn T (4 * k + u / 12)) 24)) := rfl
    obtain ⟨o, ho⟩ : ∃ o, o = u / 12 := ⟨_, rfl⟩
    obtain ⟨v, hv⟩ : ∃ v, v = u % 12 + 1 := ⟨_, rfl⟩
    have ho4 : o < 4 := by omega
    have hv1 : 1 ≤ v := by omega
    have hv12 : v ≤ 12 := by omega
    have hglu : glu T0 k (d + 1) u = (if gapL T k u = true then [100 * o + v] else []) ++ glu T0 k d (u + 1) := by rw [glu, ← hge, ← ho, ← hv]
    have hgl2 : gapL T k u = (!tt_kn T (4 * k + o) v && tt_kn T (4 * P + o) v && decide (v < bnd (tt_kn T (4 * k + o)) 24)) := by rw [hgl, ← ho, ← hv]; unfold gapc; rw [hpa]
    have hex := ex_iff (f := tt_kn T (4 * k + o)) (fun x hx => sml_k12 S (by omega) ho4 hx) hv1 hv12
    have hb := bits_12 (tt_kn T (4 * k + o))
    have ib32 : ib (nI (4 * k + o)) 32 := by rw [z_ib (by omega)]; omega
    have hk1 : w 491 (nI (4 * k + o)).toNatClampNeg = nI (2 * bits (tt_kn T (4 * k + o)) 12) := by rw [nI_clamp (by omega)]; exact rl_kn h (by omega)
    have hBX : bX (2 * bits (tt_kn T (4 * k + o)) 12) v ≤ 2 * bits (tt_kn T (4 * k + o)) 12 := Nat.div_le_self _ _
    have hsh : nI (2 * bits (tt_kn T (4 * k + o)) 12) >>> (nI v &&& 31) = nI (bX (2 * bits (tt_kn T (4 * k + o)) 12) v) := z_shr (by omega) (by omega)
    have hbit : nI (bX (2 * bits (tt_kn T (4 * k + o)) 12) v) &&& nI 1 = nI (bX (2 * bits (tt_kn T (4 * k + o)) 12) v % 2) := pk_andN (by omega) 1 (by decide)
    -- the next round, nothing learned here
    have skip : gapL T k u = false → ∃ w', m_L_ask_j225 N q8 (nI a) x11 (nI k) (nI P) (nI u) w (m_L_ask_L81 N q8 x11 (nI k) (nI P) kx n) kx = kx (nI (a + (fillL k P (glu T0 k (d + 1) u) T).1)) w' ∧ RepL (fillL k P (glu T0 k (d + 1) u) T).2.2 w' ∧ w' 490 7 = nI (t + ((fillL k P (glu T0 k (d + 1) u) T).1 + (fillL k P (glu T0 k (d + 1) u) T).2.1)) ∧ LFx N w w' := by
      intro hg
      rw [hglu, hg, if_neg (by decide), List.nil_append, m_L_ask_j225, nI_add]
      exact ih n (u + 1) a t T w (by omega) (by omega) h I hk hpa hpa0 (fun i i1 i2 => hkn i (by omega) i2) hpn h7
    rw [m_L_ask_L81, if_neg (by rw [z_le (by omega) (by omega)]; omega), lt_eq, lt_eq, pk_rem (by omega) (by omega) (by omega), pk_div (by omega) (by omega) (by omega), nI_add, ← ho, ← hv]
    simp only [pk_mul, nI_add]
    rw [if_pos ib32, hk1, hsh]
    by_cases c1 : 0 < bX (2 * bits (tt_kn T (4 * k + o)) 12) v
    · rw [if_neg (by rw [z_le0 (by omega)]; omega), if_pos ib32, hbit]
      by_cases c2 : bX (2 * bits (tt_kn T (4 * k + o)) 12) v % 2 = 0
      · obtain ⟨e1, e2⟩ := hex.mp ⟨c1, c2⟩
        have ib32P : ib (nI (4 * P + o)) 32 := by rw [z_ib (by omega)]; omega
        have hkP : w 491 (nI (4 * P + o)).toNatClampNeg = nI (2 * bits (tt_kn T (4 * P + o)) 12) := by rw [nI_clamp (by omega)]; exact rl_kn h (by omega)
        rw [e1, decide_eq_true e2, Bool.and_true, Bool.not_false, Bool.true_and] at hgl2
        rw [if_neg (by rw [c2]; exact fun q => q rfl), m_L_ask_j141, if_neg (by decide)]
        simp only [pk_mul, nI_add]
        rw [if_pos ib32P, hkP]
        by_cases c3 : tt_kn T (4 * P + o) v = true
        · have hgt : gapL T k u = true := by rw [hgl2]; exact c3
          have hup : upOk (tt_wr T) (100 * o + v) := ⟨o, v, rfl, ho4, hv1, (S.2.1 P o v (by omega) ho4 c3).2⟩
          obtain ⟨w1, a1, a2, a3⟩ := l_arrive (fr := P) h I hN hk hup
          rw [lu_ov hv12, show frC P = nI P from if_pos (by omega)] at a1
          have I1 := li_arrive (fr := P) I (show k < 8 by omega) hup
          have fx := arrive_fx T (p := k) (by omega) P (100 * o + v)
          have eu : (100 * o + v) / 100 = o ∧ (100 * o + v) % 100 = v := by omega
          have hnext := ih n (u + 1)
          rw [if_neg (by rw [z_kb _ hv1 hv12]; exact fun q => q c3), a1, b_b, hglu, if_pos hgt, List.singleton_append]
          dsimp only [fillL]
          have hkn1 : ∀ i, u + 1 ≤ i → i < 48 → tt_kn (arrive T k P (100 * o + v)) (4 * k + i / 12) (i % 12 + 1) = tt_kn T0 (4 * k + i / 12) (i % 12 + 1) := by
            intro i i1 i2
            rw [arrive_kn2 T (by omega) (by omega)]
            exact hkn i (by omega) i2
          have hpn1 : ∀ o' v', o' < 4 → tt_kn (arrive T k P (100 * o + v)) (4 * P + o') v' = tt_kn T0 (4 * P + o') v' := by
            intro o' v' ho'
            rw [arrive_kn T (by omega) (Or.inl (by omega))]
            exact hpn o' v' ho'
          have h71 : w1 490 7 = nI t := by rw [a3.m7]; exact h7
          have told : arrTold T k P (100 * o + v) = 1 ∨ arrTold T k P (100 * o + v) = 2 := by
            unfold arrTold
            rw [eu.1, eu.2, e1, if_neg (by decide)]
            split
            · exact Or.inr rfl
            · exact Or.inl rfl
          generalize arrive T k P (100 * o + v) = T1 at *
          have J : ∀ (s : Nat) (x18 : Int32), ¬ x18 = 0 → ∃ w', m_L_ask_j205 N q8 x11 (nI k) (nI P) (nI u) x18 (nI a) (nI s) w1 (m_L_ask_L81 N q8 x11 (nI k) (nI P) kx n) kx = kx (nI (a + s + (fillL k P (glu T0 k d (u + 1)) T1).1)) w' ∧ RepL (fillL k P (glu T0 k d (u + 1)) T1).2.2 w' ∧ w' 490 7 = nI (t + 1 + ((fillL k P (glu T0 k d (u + 1)) T1).1 + (fillL k P (glu T0 k d (u + 1)) T1).2.1)) ∧ LFx N w w' := by
            intro s x18 hx
            obtain ⟨w', b1, b2, b3, b4⟩ := hnext (a + s) (t + 1) T1 (wset w1 490 7 (nI (t + 1))) (by omega) (by omega) (rl_set_7 a2 _) I1 (by rw [fx.2.2.2.2.1]; exact hk) (by rw [fx.1]; exact hpa) (by rw [fx.1]; exact hpa0) hkn1 hpn1 (by rw [wset_same, upd_s])
            refine ⟨w', ?_, b2, b3, (a3.x.tr LFx.set7).tr b4⟩
            rw [m_L_ask_j205, lt_eq, if_pos (by decide), if_pos hx, show (nI 7).toNatClampNeg = 7 from nI_clamp (by omega), m_L_ask_j223, if_pos (by decide), h71, lt_eq, show (nI 7).toNatClampNeg = 7 from nI_clamp (by omega), nI_add, m_L_ask_j225, nI_add, nI_add]
            exact b1
          rcases told with e | e
          · rw [e]
            obtain ⟨w', b1, b2, b3, b4⟩ := J 1 (nI 1) (by decide)
            refine ⟨w', ?_, b2, ?_, b4⟩
            · show (if tl 1 ≤ 0 then _ else m_L_ask_j205 N q8 x11 (nI k) (nI P) (nI u) (nI 1) (nI a) (nI 1) w1 (m_L_ask_L81 N q8 x11 (nI k) (nI P) kx n) kx) = _
              rw [if_neg (by decide), b1]
              congr 2
              rw [if_pos rfl]
              omega
            · rw [b3]
              congr 1
              rw [if_pos rfl, if_neg (by decide)]
              omega
          · rw [e]
            obtain ⟨w', b1, b2, b3, b4⟩ := J 0 (-1) (by decide)
            refine ⟨w', ?_, b2, ?_, b4⟩
            · show (if tl 2 ≤ 0 then m_L_ask_j205 N q8 x11 (nI k) (nI P) (nI u) (-1) (nI a) (nI 0) w1 (m_L_ask_L81 N q8 x11 (nI k) (nI P) kx n) kx else _) = _
              rw [if_pos (by decide), b1]
              congr 2
            · rw [b3]
              congr 1
              rw [if_neg (by decide), if_pos rfl]
              omega
        · rw [if_pos (by rw [z_kb _ hv1 hv12]; exact c3)]
          exact skip (by rw [hgl2]; simpa using c3)
      · rw [if_pos (by rw [z_eq0 (by omega)]; exact c2), m_L_ask_j140, m_L_ask_j141, if_pos (by decide)]
        refine skip ?_
        cases c : gapL T k u with
        | false => rfl
        | true =>
          rw [hgl2, Bool.and_eq_true, Bool.and_eq_true, decide_eq_true_eq] at c
          have : tt_kn T (4 * k + o) v = false := by simpa using c.1.1
          exact absurd (hex.mpr ⟨this, c.2⟩).2 c2
    · rw [if_pos (by rw [z_le0 (by omega)]; omega), m_L_ask_j140, m_L_ask_j141, if_pos (by decide)]
      refine skip ?_
      cases c : gapL T k u with
      | false => rfl
      | true =>
        rw [hgl2, Bool.and_eq_true, Bool.and_eq_true, decide_eq_true_eq] at c
        have : tt_kn T (4 * k + o) v = false := by simpa using c.1.1
        exact absurd (hex.mpr ⟨this, c.2⟩).1 c1
theorem l_as_L13 (h : RepL T w) (I : InvT T) {p q8 N : Nat} (hp : p < 5) (hq : 497 ≤ q8) (kx : Int32 → Wd → Option (Int32 × Wd)) : ∀ (d n i : Nat) (w1 : Wd), i + d = dep T 8 p → d < n → (∀ k, k ≠ q8 → w1 k = w k) → (∀ k, k < i → w1 q8 k = nI (itN (tt_pa T) k p)) → ∃ w', m_L_ask_L13 N q8 kx n (nI i) (nI (itN (tt_pa T) i p)) w1 = kx (nI (dep T 8 p)) w' ∧ (∀ k, k ≠ q8 → w' k = w k) ∧ ∀ k, k < dep T 8 p → w' q8 k = nI (itN (tt_pa T) k p) := by
  have hpo := it_paOk I
  have hdl := dep_le hpo p (by omega)
  intro d
  induction d with
  | zero =>
    intro n i w1 hi hn hf hr
    obtain ⟨n, rfl⟩ : ∃ m, n = m + 1 := ⟨n - 1, by omega⟩
    have e : i = dep T 8 p := by omega
    subst e
    refine ⟨w1, ?_, hf, hr⟩
    rw [m_L_ask_L13, it_end hpo (by omega), if_pos (by decide)]
  | succ d ih =>
    intro n i w1 hi hn hf hr
    obtain ⟨n, rfl⟩ : ∃ m, n = m + 1 := ⟨n - 1, by omega⟩
    have hpos := it_pos hpo (p := p) (i := i) (by omega) (by omega)
    have hle := itN_le hpo (a := p) (by omega) i
    obtain ⟨w2, e2⟩ : ∃ w2, w2 = wset w1 q8 i (nI (itN (tt_pa T) i p)) := ⟨_, rfl⟩
    have f2 : ∀ k, k ≠ q8 → w2 k = w k := fun k hk => by rw [e2, wset_ne hk]; exact hf k hk
    have hpar : w2 490 (8 + itN (tt_pa T) i p) = nI (itN (tt_pa T) (i + 1) p) := by rw [f2 490 (by omega)]; exact rl_pa h (by omega)
    obtain ⟨w', a1, a2, a3⟩ := ih n (i + 1) w2 (by omega) (by omega) f2 (fun k hk => by
      rw [e2, wset_same]
      by_cases c : k = i
      · subst c; rw [upd_s]
      · rw [upd_n c]; exact hr k (by omega))
    refine ⟨w', ?_, a2, a3⟩
    rw [m_L_ask_L13, if_neg (by rw [z_le0 (by omega)]; omega), if_pos (by rw [z_ib (by omega)]; omega), lt_eq, show (nI i).toNatClampNeg = i from nI_clamp (by omega), ← e2, nI_add, if_pos (by rw [z_ib (by omega)]; omega), nI_clamp (by omega), hpar, lt_eq, nI_add]
    exact a1
theorem l_as_L54 {T0 : TT} (I0 : LI T0) {p q8 N : Nat} (hp : p < tt_nu T0 0) (h1 : 1 ≤ p) (hN : 498 ≤ N) (hq : q8 < N) (hq2 : 497 ≤ q8) : ∀ (j n : Nat) (s : AS) (w : Wd), j ≤ dep T0 8 p → j < n → s = askC (tt_pa T0) 8 (itN (tt_pa T0) j p) (0, 0, 0, T0) → RepL s.2.2.2 w → LI s.2.2.2 → Fx T0 s.2.2.2 → w 490 7 = nI (s.1 + s.2.1) → (∀ k, k < dep T0 8 p → w q8 k = nI (itN (tt_pa T0) k p)) → ∃ w', m_L_ask_L54 N q8 n (nI s.2.2.1) (im1 j) w = some (nI (askA T0 p).2.2.1, w') ∧ RepL (askA T0 p).2.2.2 w' ∧ LI (askA T0 p).2.2.2 ∧ Fx T0 (askA T0 p).2.2.2 ∧ w' 490 7 = nI ((askA T0 p).1 + (askA T0 p).2.1) ∧ LFx N w w' := by
  have K0 := I0.K
  have hpo := it_paOk K0
  have h5 := I0.2.1
  have hdl := dep_le hpo p (by omega)
  intro j
  induction j with
  | zero =>
    intro n s w hj hn hs h I f h7 hr
    obtain ⟨n, rfl⟩ : ∃ m, n = m + 1 := ⟨n - 1, by omega⟩
    have e : s = askA T0 p := by rw [askA_chain K0 h1 (by omega)]; exact hs
    rw [← e]
    exact ⟨w, by rw [m_L_ask_L54, if_pos (by decide)], h, I, f, h7, LFx.rf⟩
  | succ j ih =>
    intro n s w hj hn hs h I f h7 hr
    obtain ⟨n, rfl⟩ : ∃ m, n = m + 1 := ⟨n - 1, by omega⟩
    have hpos := it_pos hpo (p := p) (i := j) (by omega) (by omega)
    have hle := itN_le hpo (a := p) (by omega) j
    have hx : im1 (j + 1) = nI j := by unfold im1; rw [if_neg (by omega), Nat.add_sub_cancel]
    obtain ⟨k, hk⟩ : ∃ k, k = itN (tt_pa T0) j p := ⟨_, rfl⟩
    rw [← hk] at hpos hle
    have hpk : tt_pa s.2.2.2 k = tt_pa T0 k := by rw [f.1]
    have hPk : tt_pa s.2.2.2 k < k := by rw [hpk]; exact hpo.2 k hpos (by omega)
    have hn0 : tt_nu s.2.2.2 0 = tt_nu T0 0 := f.2.2.2.2.1
    have hw : w q8 (nI j).toNatClampNeg = nI k := by rw [nI_clamp (by omega), hk]; exact hr j (by omega)
    have hpar : w 490 (nI (8 + k)).toNatClampNeg = nI (tt_pa s.2.2.2 k) := by rw [nI_clamp (by omega)]; exact rl_pa h (by omega)
    have Ss := inv_sml I.K I.2.2
    obtain ⟨w1, a1, a2, a3, a4⟩ := l_as_L81 (T0 := s.2.2.2) Ss (k := k) (P := tt_pa s.2.2.2 k) (N := N) (q8 := q8) (by omega) hpos hPk (nI j) (fun x10_5 w6 => m_L_ask_L54 N q8 n x10_5 (nI j + (-1 : Int32)) w6) 48 49 0 0 (s.1 + s.2.1) s.2.2.2 w (by omega) (by omega) h I (by omega) rfl rfl (fun _ _ _ => rfl) (fun _ _ _ => rfl) h7
    have hgo : glu s.2.2.2 k 48 0 = gapO s.2.2.2 k 4 := glu_gapO (fun o ho => sml_bnd Ss (by omega) ho)
    rw [hgo, Nat.zero_add] at a1
    rw [hgo] at a2 a3
    have hst : fillS k s = askC (tt_pa T0) 8 (itN (tt_pa T0) j p) (0, 0, 0, T0) := by
      rw [← hk, askC_step hpo _ hpos (by omega), hs]
      rw [show tt_pa T0 k = itN (tt_pa T0) (j + 1) p by rw [hk]; rfl]
    obtain ⟨g1, g2⟩ := fillS_ok I.K (k := k) (by omega)
    obtain ⟨w', b1, b2, b3, b4, b5, b6⟩ := ih n (fillS k s) w1 (by omega) (by omega) hst a2 (I.of g1 g2) (f.tr g2) (by
      rw [a3]
      show nI _ = nI (s.1 + _ + (s.2.1 + _))
      congr 1
      omega) (fun i hi => by rw [a4 q8 (by omega)]; exact hr i hi)
    refine ⟨w', ?_, b2, b3, b4, b5, a4.tr b6⟩
    rw [hx, m_L_ask_L54, if_neg (nI_pos (by omega)), if_pos (by rw [z_ib (by omega)]; omega), hw, lt_eq, nI_add, if_pos (by rw [z_ib (by omega)]; omega), hpar, lt_eq]
    refine a1.trans ?_
    rw [im1_m1]
    exact b1
theorem l_ask (h : RepL T w) (I : LI T) {p N : Nat} (hN : 497 ≤ N) (h1 : 1 ≤ p) (hp : p < tt_nu T 0) : ∃ w', m_L_ask N (nI p) w = some (nI (askA T p).2.2.1, w') ∧ RepL (askA T p).2.2.2 w' ∧ LI (askA T p).2.2.2 ∧ w' 490 7 = nI ((askA T p).1 + (askA T p).2.1) ∧ LFx N w w' := by
  have K := I.K
  have hpo := it_paOk K
  have h5 := I.2.1
  have hF := FUb
  have hdl := dep_le hpo p (by omega)
  obtain ⟨w1, e1⟩ : ∃ w1, w1 = va_up w N (fun _ => 0) := ⟨_, rfl⟩
  have f1 : ∀ k, k ≠ N → w1 k = w k := fun k hk => by rw [e1]; exact up_n hk
  have hR1 : RepL T w1 := rl_fr h (fun k _ hk => f1 k (by omega))
  obtain ⟨w3, a1, a2, a3⟩ := l_as_L13 (q8 := N) (N := N + 1) hR1 K (p := p) (by omega) hN (fun x9_2 w3 => if ib (nI 7) 24 then lt (wset w3 490 (nI 7).toNatClampNeg (nI 0)) fun w5 => lt (x9_2 - nI 1) fun x11_6 => m_L_ask_L54 (N + 1) N 9 (nI 0) x11_6 w5 else none) (dep T 8 p) FU 0 w1 (by omega) (by omega) (fun _ _ => rfl) (fun k hk => by omega)
  have hR3 : RepL T w3 := rl_fr hR1 (fun k _ hk => a2 k (by omega))
  have hd1 : 1 ≤ dep T 8 p := by rw [dep_step hpo h1 (by omega)]; omega
  obtain ⟨w', b1, b2, b3, b4, b5, b6⟩ := l_as_L54 I (p := p) (q8 := N) (N := N + 1) hp h1 (by omega) (by omega) hN (dep T 8 p) 9 (0, 0, 0, T) (wset w3 490 7 (nI 0)) (Nat.le_refl _) (by omega) (by rw [it_end hpo (by omega), askC_z]) (rl_set_7 hR3 _) I Fx.rf (by rw [wset_same, upd_s]; rfl) (fun k hk => by rw [wset_ne (by omega)]; exact a3 k hk)
  refine ⟨w', ?_, b2, b3, b5, fun k hk => ?_⟩
  · rw [m_L_ask, lt_eq, ← e1]
    refine a1.trans ?_
    try dsimp only
    rw [if_pos (by decide), lt_eq, show (nI 7).toNatClampNeg = 7 from nI_clamp (by omega), lt_eq, z_sub hd1]
    rw [show nI (dep T 8 p - 1) = im1 (dep T 8 p) by unfold im1; rw [if_neg (by omega)]]
    exact b1
  · rw [b6 k (by omega), wset_ne (by omega), a2 k (by omega), f1 k (by omega)]
end LASK
