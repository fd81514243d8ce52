/-! ===== the law's leaves ===== -/
section LLEAF
variable {T : TT} {w : Wd}
theorem l_low {z n : Nat} (hz : z < 2 ^ 31) (h0 : 0 < n) (hn : n < 2 ^ 31) (x : Int32) (hx : x &&& nI 2147483647 = nI z) : m_L_low x (nI n) = some (nI (z % n)) := by
  rw [m_L_low, if_neg (nI_ne0 h0 hn), hx, pk_rem hz h0 hn]
theorem x31 (x : Int32) : ∃ z, z < 2 ^ 31 ∧ x &&& nI 2147483647 = nI z := by
  obtain ⟨j, hj, e⟩ := pk_andE x (m := nI 2147483647) 31 (by decide)
  exact ⟨j, hj, e⟩
/-- every int taken low is a number below -/
theorem l_lowE (x : Int32) {n : Nat} (h0 : 0 < n) (hn : n < 2 ^ 31) : ∃ k, k < n ∧ m_L_low x (nI n) = some (nI k) := by
  obtain ⟨z, hz, e⟩ := x31 x
  exact ⟨z % n, Nat.mod_lt _ h0, l_low hz h0 hn x e⟩
theorem l_shown {o v : Nat} (ho : o < 4) (hv : v ≤ 12) : m_L_shown (nI (16 * o + v)) = some (nI (100 * o + v)) := by
  rw [m_L_shown, pk_rem (by omega) (by omega) (by omega), pk_div (by omega) (by omega) (by omega), pk_mul, nI_add, show (16 * o + v) / 16 = o by omega, show (16 * o + v) % 16 = v by omega]
/-! ranges -/
def bX (B v : Nat) : Nat := B / 2 ^ v
theorem bX_s (B v : Nat) : bX B (v + 1) = bX B v / 2 := by unfold bX; rw [Nat.pow_succ, Nat.div_div_eq_div_mul]
def gB (B : Nat) (i : Nat) : Bool := decide (bX B (i + 1) % 2 = 0 ∧ bX B (i + 2) % 2 = 1)
theorem bX_tb (f : Nat → Bool) {v : Nat} (h1 : 1 ≤ v) (hv : v ≤ 12) : bX (2 * bits f 12) v % 2 = if f v then 1 else 0 := by
  have := kb_tb f h1 hv
  rw [Nat.testBit_eq_decide_div_mod_eq] at this
  unfold bX
  by_cases c : f v = true
  · rw [c] at this
    rw [if_pos c]
    exact of_decide_eq_true this
  · have c2 : f v = false := by simpa using c
    rw [c2] at this
    rw [if_neg c]
    have := of_decide_eq_false this
    omega
theorem bX_z (f : Nat → Bool) {v : Nat} (hv : 13 ≤ v) : bX (2 * bits f 12) v = 0 := by
  have hb := bits_12 f
  unfold bX
  apply Nat.div_eq_of_lt
  have : 2 ^ 13 ≤ 2 ^ v := Nat.pow_le_pow_right (by omega) hv
  omega
theorem gB_gap {f : Nat → Bool} (hf : ∀ v, 12 < v → f v = false) (i : Nat) : gB (2 * bits f 12) i = gapEnd f (i + 1) := by
  have e : ∀ v, 1 ≤ v → bX (2 * bits f 12) v % 2 = if f v then 1 else 0 := by
    intro v h1
    by_cases c : v ≤ 12
    · exact bX_tb f h1 c
    · rw [bX_z f (by omega), hf v (by omega)]; rfl
  unfold gB gapEnd
  rw [e (i + 1) (by omega), e (i + 2) (by omega)]
  cases f (i + 1) <;> cases f (i + 1 + 1) <;> rfl
theorem gB_ct {f : Nat → Bool} (hf : ∀ v, 12 < v → f v = false) : fb_ct (gB (2 * bits f 12)) 13 = gc f := by
  unfold gc
  rw [fb_ct_cong (n := 13) (fun k _ => gB_gap hf k)]
  have h := fb_ct_split (fun i => gapEnd f (i + 1)) 13 11
  have z : fb_ct (fun k => (fun i => gapEnd f (i + 1)) (13 + k)) 11 = 0 := fb_ct_zero.mpr (fun k hk => by
    show gapEnd f (13 + k + 1) = false
    unfold gapEnd
    rw [hf (13 + k + 1 + 1) (by omega), Bool.and_false])
  rw [z] at h
  exact h.symm
theorem l_rg_L16 (hR : RepL T w) {p o : Nat} (hp : p < 8) (ho : o < 4) (kx : Int32 → Option Int32) {B : Nat} (hB : B = 2 * bits (tt_kn T (4 * p + o)) 12) (c : Nat) : ∀ (v n a i : Nat), v ≤ 13 → v < n → a + fb_ct (gB B) v = c → i = (if 0 < bX B (v + 1) ∧ bX B (v + 1) % 2 = 0 then 1 else 0) → m_L_ranges_L16 491 (nI p) (nI o) w kx n (nI a) (nI i) (nI v) = kx (nI c) := by
  have hb := bits_12 (tt_kn T (4 * p + o))
  have e32 : nI 4 * nI p + nI o = nI (4 * p + o) := by rw [pk_mul, nI_add]
  have hk : w 491 (nI (4 * p + o)).toNatClampNeg = nI B := by rw [nI_clamp (by omega), hB]; exact rl_kn hR (by omega)
  have ib32 : ib (nI (4 * p + o)) 32 := by rw [z_ib (by omega)]; omega
  intro v
  induction v with
  | zero =>
    intro n a i hv hn ha hi
    obtain ⟨n, rfl⟩ : ∃ m, n = m + 1 := ⟨n - 1, by omega⟩
    rw [m_L_ranges_L16, if_pos (by decide), ← ha]
    rfl
  | succ v ih =>
    intro n a i hv hn ha hi
    obtain ⟨n, rfl⟩ : ∃ m, n = m + 1 := ⟨n - 1, by omega⟩
    have hs1 := bX_s B (v + 1)
    have hs0 := bX_s B v
    have hBX : bX B (v + 1) ≤ B := Nat.div_le_self _ _
    have hsh : nI B >>> (nI (v + 1) &&& 31) = nI (bX B (v + 1)) := z_shr (by omega) (by omega)
    have hbit : (nI B >>> (nI (v + 1) &&& 31)) &&& nI 1 = nI (bX B (v + 1) % 2) := by
      rw [hsh, pk_andN (by omega) 1 (by decide)]
    have hpos : (nI (v + 1) ≤ 0) = False := by rw [z_le0 (by omega)]; exact propext ⟨fun h => by omega, False.elim⟩
    rw [fb_ct_succ] at ha
    have hg : gB B v = decide (bX B (v + 1) % 2 = 0 ∧ bX B (v + 1 + 1) % 2 = 1) := rfl
    rw [m_L_ranges_L16, if_neg (by rw [hpos]; exact id), e32, if_pos ib32, hk, hbit]
    have hih := ih n
    generalize m_L_ranges_L16 491 (nI p) (nI o) w kx n = kc at *
    have hm1 : nI (v + 1) + (-1) = nI v := pk_m1 v
    -- the flags
    have fin : ∀ (l : Nat), l = (if 0 < bX B (v + 1) then 1 else 0) → ∀ (k : Nat), k = bX B (v + 1) % 2 → m_L_ranges_j62 491 (nI p) (nI a) (nI o) (nI i) (nI (v + 1)) (nI k) (nI l) w kc kx = kx (nI c) := by
      intro l hl k hk2
      have J101 : ∀ a2, a2 + fb_ct (gB B) v = c → ¬ (0 < bX B (v + 1) ∧ bX B (v + 1) % 2 = 0) → m_L_ranges_j101 491 (nI p) (nI a2) (nI o) (nI (v + 1)) w kc kx = kx (nI c) := by
        intro a2 h2 h3
        rw [m_L_ranges_j101, m_L_ranges_j102, hm1]
        exact hih a2 0 (by omega) (by omega) h2 (by rw [if_neg h3])
      have J1 : ∀ a2, a2 + fb_ct (gB B) v = c → (0 < bX B (v + 1) ∧ bX B (v + 1) % 2 = 0) → m_L_ranges_j102 491 (nI p) (nI a2) (nI o) (nI (v + 1)) (nI 1) w kc kx = kx (nI c) := by
        intro a2 h2 h3
        rw [m_L_ranges_j102, hm1]
        exact hih a2 1 (by omega) (by omega) h2 (by rw [if_pos h3])
      have J85 : ∀ s, a + s + fb_ct (gB B) v = c → m_L_ranges_j85 491 (nI p) (nI o) (nI (v + 1)) (nI k) (nI l) (nI a) (nI s) w kc kx = kx (nI c) := by
        intro s h2
        rw [m_L_ranges_j85, lt_eq, nI_add]
        by_cases c1 : 0 < bX B (v + 1)
        · rw [if_pos c1] at hl
          rw [if_neg (by rw [hl]; decide)]
          by_cases c2 : k = 0
          · rw [if_neg (by rw [c2]; decide)]
            exact J1 _ h2 ⟨c1, by omega⟩
          · rw [if_pos (by rw [z_eq0 (by omega)]; exact c2)]
            exact J101 _ h2 (by omega)
        · rw [if_neg c1] at hl
          rw [if_pos (by rw [hl]; rfl)]
          exact J101 _ h2 (fun q => c1 q.1)
      rw [m_L_ranges_j62]
      by_cases c1 : 0 < bX B (v + 1)
      · rw [if_pos c1] at hl
        rw [if_neg (by rw [hl]; decide)]
        by_cases c2 : k = 0
        · rw [if_neg (by rw [c2]; decide)]
          by_cases c3 : i = 0
          · have g1 : gB B v = true := by
              rw [hg, decide_eq_true_eq]
              by_cases c4 : 0 < bX B (v + 1 + 1) ∧ bX B (v + 1 + 1) % 2 = 0
              · rw [if_pos c4] at hi; omega
              · omega
            rw [if_neg (by rw [c3]; decide)]
            rw [if_pos g1] at ha
            exact J85 1 (by omega)
          · have g1 : ¬ gB B v = true := by
              rw [hg, decide_eq_true_eq]
              by_cases c4 : 0 < bX B (v + 1 + 1) ∧ bX B (v + 1 + 1) % 2 = 0
              · omega
              · rw [if_neg c4] at hi; omega
            rw [if_pos (by rw [z_eq0 (by rw [hi]; split <;> omega)]; exact c3), m_L_ranges_j84]
            rw [if_neg g1] at ha
            exact J85 0 (by omega)
        · have g1 : ¬ gB B v = true := by rw [hg, decide_eq_true_eq]; omega
          rw [if_pos (by rw [z_eq0 (by omega)]; exact c2), m_L_ranges_j84]
          rw [if_neg g1] at ha
          exact J85 0 (by omega)
      · have g1 : ¬ gB B v = true := by rw [hg, decide_eq_true_eq]; omega
        rw [if_neg c1] at hl
        rw [if_pos (by rw [hl]; rfl), m_L_ranges_j84]
        rw [if_neg g1] at ha
        exact J85 0 (by omega)
    have J42 : ∀ (k : Nat), k = bX B (v + 1) % 2 → m_L_ranges_j42 491 (nI p) (nI a) (nI o) (nI i) (nI (v + 1)) (nI k) w kc kx = kx (nI c) := by
      intro k hk2
      rw [m_L_ranges_j42, e32, if_pos ib32, hk, hsh]
      by_cases c1 : 0 < bX B (v + 1)
      · rw [if_neg (by rw [z_le0 (by omega)]; omega)]
        exact fin 1 (by rw [if_pos c1]) k hk2
      · rw [if_pos (by rw [z_le0 (by omega)]; omega)]
        exact fin 0 (by rw [if_neg c1]) k hk2
    by_cases c0 : bX B (v + 1) % 2 = 1
    · rw [if_neg (by rw [c0]; exact fun h => h rfl)]
      exact J42 1 c0.symm
    · rw [if_pos (by rw [z_eq (by omega) (by omega)]; exact c0)]
      exact J42 0 (by omega)
def rgN (T : TT) (p : Nat) : Nat := gc (tt_kn T (4 * p + 0)) + gc (tt_kn T (4 * p + 1)) + gc (tt_kn T (4 * p + 2)) + gc (tt_kn T (4 * p + 3))
theorem l_ranges (hR : RepL T w) {p : Nat} (hp : p < 8) (hk : ∀ o v, o < 4 → 12 < v → tt_kn T (4 * p + o) v = false) : m_L_ranges 491 (nI p) w = some (nI (rgN T p)) := by
  have hF := FUb
  have st : ∀ (n a o : Nat), o < 4 → m_L_ranges_L4 491 (nI p) w (n + 1) (nI a) (nI o) = m_L_ranges_L4 491 (nI p) w n (nI (a + gc (tt_kn T (4 * p + o)))) (nI (o + 1)) := by
    intro n a o ho
    rw [m_L_ranges_L4, if_neg (by rw [z_le (by omega) (by omega)]; omega)]
    have h := l_rg_L16 hR hp ho (fun x2_1 => m_L_ranges_L4 491 (nI p) w n x2_1 (nI o + nI 1)) rfl (a + gc (tt_kn T (4 * p + o))) 13 FU a 0 (by omega) (by omega) (by rw [gB_ct (fun v hv => hk o v ho hv)]) (by rw [bX_z _ (by omega)]; rfl)
    rw [h, nI_add]
  obtain ⟨N, hN, -⟩ := FU5
  rw [m_L_ranges, hN, st (N + 4) 0 0 (by omega), st (N + 3) _ 1 (by omega), st (N + 2) _ 2 (by omega), st (N + 1) _ 3 (by omega), m_L_ranges_L4, if_pos (by decide), Nat.zero_add]
  rfl
end LLEAF
