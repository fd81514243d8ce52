/-! ===== sets of versions as bits ===== -/
theorem bits_lt (f : Nat → Bool) : ∀ n, bits f n < 2 ^ n
  | 0 => by simp [bits]
  | n + 1 => by
    have := bits_lt f n
    simp only [bits, Nat.pow_succ]
    split <;> omega
theorem bits_tb (f : Nat → Bool) : ∀ n i, (bits f n).testBit i = (decide (i < n) && f (i + 1))
  | 0, i => by simp [bits]
  | n + 1, i => by
    have hb := bits_lt f n
    have ih := bits_tb f n i
    simp only [bits]
    by_cases c : f (n + 1) = true
    · rw [if_pos c, Nat.add_comm, show 2 ^ n + bits f n = 2 ^ n * 1 + bits f n by omega, Nat.two_pow_add_eq_or_of_lt hb, Nat.testBit_or, ih, Nat.mul_one, Nat.testBit_two_pow]
      by_cases e : i = n
      · subst e; simp [c]
      · have e2 : ¬ n = i := fun z => e z.symm
        by_cases l : i < n
        · simp [e2, l, Nat.lt_succ_of_lt l]
        · have : ¬ i < n + 1 := by omega
          simp [e2, l, this]
    · rw [if_neg c, Nat.add_zero, ih]
      have c2 : f (n + 1) = false := by simpa using c
      by_cases e : i = n
      · subst e; simp [c2]
      · by_cases l : i < n
        · simp [l, Nat.lt_succ_of_lt l]
        · have : ¬ i < n + 1 := by omega
          simp [l, this]
theorem bits_24 (f : Nat → Bool) : bits f 24 < 16777216 := bits_lt f 24
theorem bits_ext {f g : Nat → Bool} : ∀ {n : Nat}, (∀ v, 1 ≤ v → v ≤ n → f v = g v) → bits f n = bits g n
  | 0, _ => rfl
  | n + 1, h => by
    simp only [bits]
    rw [bits_ext (fun v h1 h2 => h v h1 (by omega)), h (n + 1) (by omega) (by omega)]
theorem z_shr {n k : Nat} (hn : n < 2 ^ 31) (hk : k < 32) : nI n >>> (nI k &&& 31) = nI (n / 2 ^ k) := pk_shrN hn _ k (s_l k hk)
theorem z_bit {n k : Nat} (hn : n < 2 ^ 31) (hk : k < 32) : (nI n >>> (nI k &&& 31)) &&& nI 1 = nI (if n.testBit k then 1 else 0) := by
  rw [z_shr hn hk, fa_and, Nat.and_one_is_mod, Nat.testBit_eq_decide_div_mod_eq]
  have h := Nat.mod_lt (n / 2 ^ k) (show 0 < 2 by omega)
  by_cases c : n / 2 ^ k % 2 = 1
  · simp [c]
  · have : n / 2 ^ k % 2 = 0 := by omega
    simp [this]
theorem z_bitf (f : Nat → Bool) {v : Nat} (h1 : 1 ≤ v) (hv : v ≤ 24) : (nI (bits f 24) >>> (nI (v - 1) &&& 31)) &&& nI 1 = nI (if f v then 1 else 0) := by
  have := bits_24 f
  rw [z_bit (by omega) (by omega), bits_tb, show v - 1 + 1 = v by omega]
  have : v - 1 < 24 := by omega
  simp [this]
theorem e_contains (f : Nat → Bool) {v : Nat} (h1 : 1 ≤ v) (hv : v ≤ 24) : m_X6_contains (nI (bits f 24)) (nI v) = some (nI (if f v then 1 else 0)) := by
  simp only [m_X6_contains]
  rw [if_neg (by rw [z_lt (by omega) (by omega)]; omega), if_neg (by rw [z_lt (by omega) (by omega)]; omega), z_sub h1, z_bitf f h1 hv]
  by_cases c : f v = true
  · rw [if_pos c, if_neg (by decide)]
  · rw [if_neg c, if_pos (by decide)]
theorem e_knows {T : TT} {w : Wd} (h : RepC 0 T w) {p o v : Nat} (hp : p < 8) (ho : o < 4) (h1 : 1 ≤ v) (hv : v ≤ 24) : m_X5_knows (nI p) (nI o) (nI v) w = some (nI (if tt_kn T (4 * p + o) v then 1 else 0)) := by
  rw [m_X5_knows, e_knownOf h hp ho, b_b, e_contains _ h1 hv, b_b]
  by_cases c : tt_kn T (4 * p + o) v = true
  · rw [if_pos c]; rfl
  · rw [if_neg c]; rfl
theorem z_shl1 {k : Nat} (hk : k < 31) : nI 1 <<< (nI k &&& 31) = nI (2 ^ k) := by
  have h : 2 ^ k < 2 ^ 32 := Nat.pow_lt_pow_right (by omega) (by omega)
  rw [pk_shlN _ k (s_l k (by omega)) (by omega), Nat.one_mul]
theorem bits_or (f : Nat → Bool) {v : Nat} (h1 : 1 ≤ v) (hv : v ≤ 24) : bits f 24 ||| 2 ^ (v - 1) = bits (va_up f v true) 24 := by
  apply Nat.eq_of_testBit_eq
  intro i
  rw [Nat.testBit_or, bits_tb, bits_tb, Nat.testBit_two_pow]
  by_cases e : i + 1 = v
  · subst e
    have : i < 24 := by omega
    simp [up_s, this]
  · have e2 : ¬ v - 1 = i := by omega
    rw [up_n e]
    simp [e2]
theorem e_with (f : Nat → Bool) {v : Nat} (h1 : 1 ≤ v) (hv : v ≤ 24) : m_X6_with (nI (bits f 24)) (nI v) = some (nI (bits (va_up f v true) 24)) := by
  simp only [m_X6_with]
  rw [if_neg (by rw [z_lt (by omega) (by omega)]; omega), if_neg (by rw [z_lt (by omega) (by omega)]; omega), z_sub h1, z_shl1 (by omega), fa_or, bits_or f h1 hv]
/-- the greatest number such that all versions from 1 to it are in the set -/
def pre (f : Nat → Bool) : Nat := fa_first (fun i => !f (i + 1)) 24
theorem pre_le (f : Nat → Bool) : pre f ≤ 24 := fa_first_le _ 24
theorem pre_in {f : Nat → Bool} {v : Nat} (h1 : 1 ≤ v) (hv : v ≤ pre f) : f v = true := by
  have := fa_first_no (fun i => !f (i + 1)) 24 (v - 1) (by unfold pre at hv; omega)
  rw [show v - 1 + 1 = v by omega] at this
  simpa using this
theorem pre_out {f : Nat → Bool} (h : pre f < 24) : f (pre f + 1) = false := by
  have h2 : (!f (pre f + 1)) = true := fa_first_yes (fun i => !f (i + 1)) 24 h
  cases hc : f (pre f + 1) with
  | false => rfl
  | true => rw [hc] at h2; cases h2
theorem e_prefixOf_L (f : Nat → Bool) {P : Nat} (hle : P ≤ 24) (hin : ∀ v, 1 ≤ v → v ≤ P → f v = true) (hout : P < 24 → f (P + 1) = false) : ∀ (d n k : Nat), k + d = P → d < n → m_X6_prefixOf_L2 (nI (bits f 24)) n (nI k) = some (nI P) := by
  have hb := bits_24 f
  intro d
  induction d with
  | zero =>
    intro n k hk hn
    obtain ⟨n, rfl⟩ : ∃ m, n = m + 1 := ⟨n - 1, by omega⟩
    have e : k = P := by omega
    subst e
    rw [m_X6_prefixOf_L2]
    by_cases c : k = 24
    · rw [if_pos (by rw [z_le (by omega) (by omega)]; omega)]
    · rw [if_neg (by rw [z_le (by omega) (by omega)]; omega), if_pos]
      have := z_bitf f (v := k + 1) (by omega) (by omega)
      rw [Nat.add_sub_cancel, hout (by omega)] at this
      exact this
  | succ d ih =>
    intro n k hk hn
    obtain ⟨n, rfl⟩ : ∃ m, n = m + 1 := ⟨n - 1, by omega⟩
    rw [m_X6_prefixOf_L2, if_neg (by rw [z_le (by omega) (by omega)]; omega), if_neg, nI_add, ih n (k + 1) (by omega) (by omega)]
    have := z_bitf f (v := k + 1) (by omega) (by omega)
    rw [Nat.add_sub_cancel, hin _ (by omega) (by omega)] at this
    rw [this]
    decide
theorem e_prefixOf (f : Nat → Bool) : m_X6_prefixOf (nI (bits f 24)) = some (nI (pre f)) := by
  have h := pre_le f
  have h2 := @pre_in f
  have h3 := @pre_out f
  generalize pre f = P at h h2 h3 ⊢
  exact e_prefixOf_L f h (fun v a b => h2 a b) h3 P FU 0 (by omega) (by show P < 10000; omega)
/-- the greatest version up to n in the set -/
def bnd (f : Nat → Bool) : Nat → Nat
  | 0 => 0
  | n + 1 => if f (n + 1) then n + 1 else bnd f n
theorem bnd_le (f : Nat → Bool) : ∀ n, bnd f n ≤ n
  | 0 => Nat.le_refl 0
  | n + 1 => by
    have := bnd_le f n
    simp only [bnd]
    split <;> omega
theorem bnd_in (f : Nat → Bool) : ∀ n, bnd f n ≠ 0 → f (bnd f n) = true
  | 0, h => absurd rfl h
  | n + 1, h => by
    simp only [bnd] at h ⊢
    split
    · assumption
    · rename_i c
      rw [if_neg c] at h
      exact bnd_in f n h
theorem bnd_out (f : Nat → Bool) : ∀ n v, bnd f n < v → v ≤ n → f v = false
  | 0, v, h1, h2 => by simp [bnd] at h1; omega
  | n + 1, v, h1, h2 => by
    simp only [bnd] at h1
    split at h1
    · omega
    · rename_i c
      by_cases e : v = n + 1
      · subst e; simpa using c
      · exact bnd_out f n v h1 (by omega)
theorem e_greatest_L (f : Nat → Bool) : ∀ (k n : Nat), k < n → k ≤ 24 → m_X6_greatest_L3 (nI (bits f 24)) n (nI k) = some (nI (bnd f k)) := by
  intro k
  induction k with
  | zero =>
    intro n hn hk
    obtain ⟨n, rfl⟩ : ∃ m, n = m + 1 := ⟨n - 1, by omega⟩
    rw [m_X6_greatest_L3, if_pos (by rw [z_le0 (by omega)])]
    rfl
  | succ k ih =>
    intro n hn hk
    obtain ⟨n, rfl⟩ : ∃ m, n = m + 1 := ⟨n - 1, by omega⟩
    rw [m_X6_greatest_L3, if_neg (by rw [z_le0 (by omega)]; omega), z_sub (by omega), z_bitf f (by omega) hk]
    by_cases c : f (k + 1) = true
    · rw [if_pos c, if_pos (by decide)]
      simp only [bnd, c, if_true]
    · rw [if_neg c, if_neg (by decide), pk_m1, ih n (by omega) (by omega)]
      simp only [bnd, if_neg c]
theorem e_greatest (f : Nat → Bool) : m_X6_greatest (nI (bits f 24)) = some (nI (bnd f 24)) := e_greatest_L f 24 FU (by decide) (by omega)
