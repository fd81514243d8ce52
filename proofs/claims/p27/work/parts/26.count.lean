/-! ===== how many bits are set ===== -/
theorem and_h {k a c m M : Nat} (ha : a < 2 ^ k) (hc : c < 2 ^ k) : (a + 2 ^ k * m) &&& (c + 2 ^ k * M) = (a &&& c) + 2 ^ k * (m &&& M) := by
  apply Nat.eq_of_testBit_eq
  intro i
  rw [Nat.testBit_and, Nat.add_comm a, Nat.add_comm c, Nat.add_comm (a &&& c), Nat.testBit_two_pow_mul_add _ ha, Nat.testBit_two_pow_mul_add _ hc, Nat.testBit_two_pow_mul_add _ (Nat.and_lt_two_pow a hc)]
  split
  · rw [Nat.testBit_and]
  · rw [Nat.testBit_and]
/-- n digits to the base B, the lowest first -/
def hor (B : Nat) (d : Nat → Nat) : Nat → Nat
  | 0 => 0
  | n + 1 => d 0 + B * hor B (fun i => d (i + 1)) n
theorem hor_cong {B : Nat} : ∀ {n : Nat} {d e : Nat → Nat}, (∀ i, i < n → d i = e i) → hor B d n = hor B e n
  | 0, _, _, _ => rfl
  | n + 1, d, e, h => by
    simp only [hor]
    rw [h 0 (by omega), hor_cong (fun i hi => h (i + 1) (by omega))]
theorem hor_and (k : Nat) : ∀ (n : Nat) (d c : Nat → Nat), (∀ i, d i < 2 ^ k) → (∀ i, c i < 2 ^ k) → hor (2 ^ k) d n &&& hor (2 ^ k) c n = hor (2 ^ k) (fun i => d i &&& c i) n
  | 0, _, _, _, _ => by simp [hor]
  | n + 1, d, c, hd, hc => by
    simp only [hor]
    rw [and_h (hd 0) (hc 0), hor_and k n _ _ (fun i => hd (i + 1)) (fun i => hc (i + 1))]
theorem hor_div {B : Nat} (hB : 0 < B) (d : Nat → Nat) (n : Nat) (h : d 0 < B) : hor B d (n + 1) / B = hor B (fun i => d (i + 1)) n := by
  simp only [hor]
  rw [Nat.add_mul_div_left _ _ hB, Nat.div_eq_of_lt h, Nat.zero_add]
theorem hor_add (B : Nat) : ∀ (n : Nat) (d e : Nat → Nat), hor B d n + hor B e n = hor B (fun i => d i + e i) n
  | 0, _, _ => rfl
  | n + 1, d, e => by
    simp only [hor]
    rw [← hor_add B n, Nat.mul_add]
    omega
theorem hor_two (B : Nat) : ∀ (n : Nat) (d : Nat → Nat), hor B d (2 * n) = hor (B * B) (fun i => d (2 * i) + B * d (2 * i + 1)) n
  | 0, _ => rfl
  | n + 1, d => by
    rw [show 2 * (n + 1) = 2 * n + 1 + 1 by omega]
    simp only [hor]
    rw [hor_two B n, Nat.mul_add, Nat.mul_assoc, Nat.add_assoc]
    rfl
theorem hor_last (B : Nat) : ∀ (n : Nat) (d : Nat → Nat), hor B d (n + 1) = hor B d n + B ^ n * d n
  | 0, d => by simp [hor]
  | n + 1, d => by
    have h := hor_last B n (fun i => d (i + 1))
    rw [hor, h, hor, Nat.mul_add, Nat.pow_succ, ← Nat.mul_assoc, Nat.mul_comm B (B ^ n), Nat.add_assoc]
theorem hor_pad {B n : Nat} {d : Nat → Nat} (h : d n = 0) : hor B d n = hor B d (n + 1) := by rw [hor_last, h, Nat.mul_zero, Nat.add_zero]
theorem hor_lt {B : Nat} (hB : 0 < B) : ∀ (n : Nat) (d : Nat → Nat), (∀ i, d i < B) → hor B d n < B ^ n
  | 0, _, _ => by simp [hor]
  | n + 1, d, h => by
    have ih := hor_lt hB n (fun i => d (i + 1)) (fun i => h (i + 1))
    have h0 := h 0
    simp only [hor]
    have : B * (hor B (fun i => d (i + 1)) n + 1) ≤ B * B ^ n := Nat.mul_le_mul_left B ih
    rw [Nat.mul_add, Nat.mul_one] at this
    rw [Nat.pow_succ, Nat.mul_comm (B ^ n)]
    omega
theorem z_ush {n k : Nat} (hn : n < 2 ^ 32) (hk : k < 32) : ((nI n).toUInt32 >>> ((nI k).toUInt32 &&& Int32.toUInt32 31)).toInt32 = nI (n / 2 ^ k) := pk_ushrN hn _ k (s_u k hk)
theorem e_bitCount_n {n x1 s1 s2 s3 s4 s5 k : Nat} (hn : n < 2 ^ 32) (e0 : n / 2 &&& 1431655765 = x1) (e1 : n = s1 + x1) (b1 : s1 < 2 ^ 32) (e2 : (s1 &&& 858993459) + (s1 / 4 &&& 858993459) = s2) (b2 : s2 < 2 ^ 32) (e3 : (s2 + s2 / 16) &&& 252645135 = s3) (b3 : s3 < 2 ^ 32) (e4 : s3 + s3 / 256 = s4) (b4 : s4 < 2 ^ 32) (e5 : s4 + s4 / 65536 = s5) (e6 : s5 &&& 63 = k) : m_J6_bitCount_0f7a4 (nI n) = some (nI k) := by
  simp only [m_J6_bitCount_0f7a4, lt_eq]
  rw [z_ush hn (by omega), show n / 2 ^ 1 = n / 2 from rfl, fa_and, e0, z_sub (by omega), show n - x1 = s1 by omega, fa_and, z_ush b1 (by omega), show s1 / 2 ^ 2 = s1 / 4 from rfl, fa_and, nI_add, e2, z_ush b2 (by omega), show s2 / 2 ^ 4 = s2 / 16 from rfl, nI_add, fa_and, e3, z_ush b3 (by omega), show s3 / 2 ^ 8 = s3 / 256 from rfl, nI_add, e4, z_ush b4 (by omega), show s4 / 2 ^ 16 = s4 / 65536 from rfl, nI_add, e5, fa_and, e6]
theorem pc_1 {b : Nat → Nat} (hb : ∀ i, b i ≤ 1) (hz : b 32 = 0) : hor 2 b 32 / 2 &&& 1431655765 = hor 4 (fun i => b (2 * i + 1)) 16 := by
  have e : hor 2 b 32 / 2 = hor 4 (fun i => b (2 * i + 1) + 2 * b (2 * i + 2)) 16 := by
    rw [hor_div (by omega) b 31 (by have := hb 0; omega), hor_pad (n := 31) (d := fun i => b (i + 1)) hz]
    exact hor_two 2 16 (fun i => b (i + 1))
  have e2 : (1431655765 : Nat) = hor 4 (fun _ => 1) 16 := by decide
  rw [e, e2]
  refine (hor_and 2 16 _ _ (fun i => ?_) (fun i => by decide)).trans (hor_cong (fun i _ => ?_))
  · have := hb (2 * i + 1); have := hb (2 * i + 2); show b (2 * i + 1) + 2 * b (2 * i + 2) < 4; omega
  · have := hb (2 * i + 1); rw [Nat.and_one_is_mod]; omega
theorem pc_2 {p : Nat → Nat} (hp : ∀ i, p i ≤ 2) (hz : p 16 = 0) : (hor 4 p 16 &&& 858993459) + (hor 4 p 16 / 4 &&& 858993459) = hor 16 (fun i => p (2 * i) + p (2 * i + 1)) 8 := by
  have e2 : (858993459 : Nat) = hor 16 (fun _ => 3) 8 := by decide
  have a1 : hor 4 p 16 &&& 858993459 = hor 16 (fun i => p (2 * i)) 8 := by
    rw [e2, hor_two 4 8 p]
    refine (hor_and 4 8 _ _ (fun i => ?_) (fun i => by decide)).trans (hor_cong (fun i _ => ?_))
    · have := hp (2 * i); have := hp (2 * i + 1); show p (2 * i) + 4 * p (2 * i + 1) < 16; omega
    · have := hp (2 * i)
      show (p (2 * i) + 4 * p (2 * i + 1)) &&& 2 ^ 2 - 1 = _
      rw [Nat.and_two_pow_sub_one_eq_mod]; omega
  have a2 : hor 4 p 16 / 4 &&& 858993459 = hor 16 (fun i => p (2 * i + 1)) 8 := by
    rw [e2, hor_div (by omega) p 15 (by have := hp 0; omega), hor_pad (n := 15) (d := fun i => p (i + 1)) hz, hor_two 4 8 (fun i => p (i + 1))]
    refine (hor_and 4 8 _ _ (fun i => ?_) (fun i => by decide)).trans (hor_cong (fun i _ => ?_))
    · have := hp (2 * i + 1); have := hp (2 * i + 1 + 1); show p (2 * i + 1) + 4 * p (2 * i + 1 + 1) < 16; omega
    · have := hp (2 * i + 1)
      show (p (2 * i + 1) + 4 * p (2 * i + 1 + 1)) &&& 2 ^ 2 - 1 = _
      rw [Nat.and_two_pow_sub_one_eq_mod]; omega
  rw [a1, a2, hor_add]
theorem pc_3 {q : Nat → Nat} (hq : ∀ i, q i ≤ 4) (hz : q 8 = 0) : (hor 16 q 8 + hor 16 q 8 / 16) &&& 252645135 = hor 256 (fun i => q (2 * i) + q (2 * i + 1)) 4 := by
  have e2 : (252645135 : Nat) = hor 256 (fun _ => 15) 4 := by decide
  rw [e2, hor_div (by omega) q 7 (by have := hq 0; omega), hor_pad (n := 7) (d := fun i => q (i + 1)) hz, hor_add, hor_two 16 4]
  refine (hor_and 8 4 _ _ (fun i => ?_) (fun i => by decide)).trans (hor_cong (fun i _ => ?_))
  · have := hq (2 * i); have := hq (2 * i + 1); have := hq (2 * i + 1 + 1); show q (2 * i) + q (2 * i + 1) + 16 * (q (2 * i + 1) + q (2 * i + 1 + 1)) < 256; omega
  · have := hq (2 * i); have := hq (2 * i + 1)
    show (q (2 * i) + q (2 * i + 1) + 16 * (q (2 * i + 1) + q (2 * i + 1 + 1))) &&& 2 ^ 4 - 1 = _
    rw [Nat.and_two_pow_sub_one_eq_mod]; omega
theorem pc_4 {r : Nat → Nat} (hr : ∀ i, r i ≤ 8) (hz : ∀ i, 4 ≤ i → r i = 0) : hor 256 r 4 + hor 256 r 4 / 256 = hor 256 (fun i => r i + r (i + 1)) 4 := by
  rw [hor_div (by omega) r 3 (by have := hr 0; omega), hor_pad (n := 3) (d := fun i => r (i + 1)) (hz 4 (by omega)), hor_add]
theorem pc_5 {t : Nat → Nat} (ht : ∀ i, t i ≤ 16) (hz : ∀ i, 4 ≤ i → t i = 0) : (hor 256 t 4 + hor 256 t 4 / 65536) &&& 63 = t 0 + t 2 := by
  rw [show (65536 : Nat) = 256 * 256 from rfl, ← Nat.div_div_eq_div_mul, hor_div (by omega) t 3 (by have := ht 0; omega), hor_div (by omega) (fun i => t (i + 1)) 2 (by have := ht 1; show t 1 < 256; omega)]
  show (t 0 + 256 * hor 256 (fun i => t (i + 1)) 3 + (t 2 + 256 * hor 256 (fun i => t (i + 1 + 1 + 1)) 1)) &&& 2 ^ 6 - 1 = _
  rw [Nat.and_two_pow_sub_one_eq_mod]
  have := ht 0; have := ht 2
  omega
def b01 (f : Nat → Bool) (i : Nat) : Nat := if i < 24 then (if f (i + 1) then 1 else 0) else 0
theorem b01_le (f : Nat → Bool) (i : Nat) : b01 f i ≤ 1 := by unfold b01; split <;> (try split) <;> omega
theorem b01_z (f : Nat → Bool) {i : Nat} (h : 24 ≤ i) : b01 f i = 0 := by unfold b01; rw [if_neg (by omega)]
theorem bits_hor (f : Nat → Bool) : ∀ n, n ≤ 24 → hor 2 (b01 f) n = bits f n
  | 0, _ => rfl
  | n + 1, h => by
    rw [hor_last, bits_hor f n (by omega)]
    simp only [bits, b01]
    rw [if_pos (show n < 24 by omega)]
    split <;> simp
theorem ct_b01 (f : Nat → Bool) : ∀ n, n ≤ 24 → fb_ct (fun i => f (i + 1)) n = fb_sm (b01 f) n
  | 0, _ => rfl
  | n + 1, h => by
    rw [fb_ct_succ, fb_sm_succ, ct_b01 f n (by omega)]
    simp only [b01]
    rw [if_pos (show n < 24 by omega)]
theorem hor_pads {B : Nat} {d : Nat → Nat} {n : Nat} (h : ∀ i, n ≤ i → d i = 0) : ∀ k, hor B d n = hor B d (n + k)
  | 0 => rfl
  | k + 1 => by rw [hor_pads h k, hor_pad (h (n + k) (by omega))]; rfl
theorem e_bitCount (f : Nat → Bool) : m_J6_bitCount_0f7a4 (nI (bits f 24)) = some (nI (fb_ct (fun i => f (i + 1)) 24)) := by
  have hb := b01_le f
  have hz := fun i (h : 24 ≤ i) => b01_z f h
  rw [← bits_hor f 24 (by omega), ct_b01 f 24 (by omega), hor_pads hz 8]
  generalize b01 f = b at hb hz ⊢
  obtain ⟨p, ep⟩ : ∃ p : Nat → Nat, p = fun i => b (2 * i) + b (2 * i + 1) := ⟨_, rfl⟩
  obtain ⟨q, eq⟩ : ∃ q : Nat → Nat, q = fun i => p (2 * i) + p (2 * i + 1) := ⟨_, rfl⟩
  obtain ⟨r, er⟩ : ∃ r : Nat → Nat, r = fun i => q (2 * i) + q (2 * i + 1) := ⟨_, rfl⟩
  obtain ⟨t, et⟩ : ∃ t : Nat → Nat, t = fun i => r i + r (i + 1) := ⟨_, rfl⟩
  have hp : ∀ i, p i ≤ 2 := fun i => by have := hb (2 * i); have := hb (2 * i + 1); rw [ep]; show b (2 * i) + b (2 * i + 1) ≤ 2; omega
  have hq : ∀ i, q i ≤ 4 := fun i => by have := hp (2 * i); have := hp (2 * i + 1); rw [eq]; show p (2 * i) + p (2 * i + 1) ≤ 4; omega
  have hr : ∀ i, r i ≤ 8 := fun i => by have := hq (2 * i); have := hq (2 * i + 1); rw [er]; show q (2 * i) + q (2 * i + 1) ≤ 8; omega
  have ht : ∀ i, t i ≤ 16 := fun i => by have := hr i; have := hr (i + 1); rw [et]; show r i + r (i + 1) ≤ 16; omega
  have zp : ∀ i, 12 ≤ i → p i = 0 := fun i h => by rw [ep]; show b (2 * i) + b (2 * i + 1) = 0; rw [hz _ (by omega), hz _ (by omega)]
  have zq : ∀ i, 6 ≤ i → q i = 0 := fun i h => by rw [eq]; show p (2 * i) + p (2 * i + 1) = 0; rw [zp _ (by omega), zp _ (by omega)]
  have zr : ∀ i, 3 ≤ i → r i = 0 := fun i h => by rw [er]; show q (2 * i) + q (2 * i + 1) = 0; rw [zq _ (by omega), zq _ (by omega)]
  have zt : ∀ i, 4 ≤ i → t i = 0 := fun i h => by rw [et]; show r i + r (i + 1) = 0; rw [zr _ (by omega), zr _ (by omega)]
  have k1 := pc_1 hb (hz 32 (by omega))
  have k2 := pc_2 hp (zp 16 (by omega))
  have k3 := pc_3 hq (zq 8 (by omega))
  have k4 := pc_4 hr (fun i h => zr i (by omega))
  have k5 := pc_5 ht zt
  have n1 : hor 2 b 32 = hor 4 p 16 + hor 4 (fun i => b (2 * i + 1)) 16 := by
    rw [hor_two 2 16 b, hor_add, ep]
    exact hor_cong (fun i _ => by show b (2 * i) + 2 * b (2 * i + 1) = b (2 * i) + b (2 * i + 1) + b (2 * i + 1); omega)
  have l0 : hor 2 b 32 < 2 ^ 32 := hor_lt (by omega) 32 b (fun i => by have := hb i; omega)
  have l1 : hor 4 p 16 < 4 ^ 16 := hor_lt (by omega) 16 p (fun i => by have := hp i; omega)
  have l2 : hor 16 q 8 < 16 ^ 8 := hor_lt (by omega) 8 q (fun i => by have := hq i; omega)
  have l3 : hor 256 r 4 < 256 ^ 4 := hor_lt (by omega) 4 r (fun i => by have := hr i; omega)
  have l4 : hor 256 t 4 < 256 ^ 4 := hor_lt (by omega) 4 t (fun i => by have := ht i; omega)
  rw [← eq] at k2
  rw [← er] at k3
  rw [← et] at k4
  refine (e_bitCount_n l0 k1 n1 l1 k2 l2 k3 l3 k4 l4 rfl k5).trans ?_
  have s : t 0 + t 2 = fb_sm b 24 := by
    simp only [et, er, eq, ep, fb_sm, Nat.reduceMul, Nat.reduceAdd, Nat.zero_add, Nat.mul_zero, Nat.mul_one]
    rw [hz 24 (by omega), hz 25 (by omega), hz 26 (by omega), hz 27 (by omega), hz 28 (by omega), hz 29 (by omega), hz 30 (by omega), hz 31 (by omega)]
    omega
  rw [s]
theorem e_sizeOf (f : Nat → Bool) : m_X6_sizeOf (nI (bits f 24)) = some (nI (fb_ct (fun i => f (i + 1)) 24)) := by
  rw [m_X6_sizeOf, e_bitCount, b_b]
theorem bt_nI {n i : Nat} (hi : i < 32) : bt (nI n) i = n.testBit i := by
  show (BitVec.ofNat 32 n).getLsbD i = _
  rw [BitVec.getLsbD_ofNat]
  simp [hi]
/-- the ends of ranges of exceptions: a version out of the set with its successor in it -/
def gapEnd (f : Nat → Bool) (v : Nat) : Bool := !f v && f (v + 1)
theorem bits_gap (f : Nat → Bool) (h25 : f 25 = false) : (nI (bits f 24) ^^^ (-1)) &&& (nI (bits f 24) >>> (nI 1 &&& 31)) = nI (bits (gapEnd f) 24) := by
  apply b_ext
  intro i hi
  have hb := bits_24 f
  rw [z_shr (by omega) (by omega), b_and, b_xor, b_m1 i hi, bt_nI hi, bt_nI hi, bt_nI hi, bits_tb, bits_tb, Nat.testBit_div_two_pow, bits_tb]
  unfold gapEnd
  by_cases c : i < 23
  · have c2 : i < 24 := by omega
    have c3 : i + 1 < 24 := by omega
    simp [c2, c3]
  · by_cases c4 : i = 23
    · subst c4; simp [h25]
    · have c2 : ¬ i < 24 := by omega
      have c3 : ¬ i + 1 < 24 := by omega
      simp [c2, c3]
theorem e_rangesIn (f : Nat → Bool) (h25 : f 25 = false) : m_X6_rangesIn (nI (bits f 24)) = some (nI (fb_ct (fun i => gapEnd f (i + 1)) 24)) := by
  rw [m_X6_rangesIn, bits_gap f h25, e_bitCount, b_b]
theorem bits_sub (f g : Nat → Bool) : nI (bits f 24) &&& (nI (bits g 24) ^^^ (-1)) = nI (bits (fun v => f v && !g v) 24) := by
  apply b_ext
  intro i hi
  rw [b_and, b_xor, b_m1 i hi, bt_nI hi, bt_nI hi, bt_nI hi, bits_tb, bits_tb, bits_tb]
  by_cases c : i < 24 <;> simp [c]
theorem bits_zero {f : Nat → Bool} : ∀ {n : Nat}, bits f n = 0 ↔ ∀ v, 1 ≤ v → v ≤ n → f v = false
  | 0 => ⟨fun _ v h1 h2 => by omega, fun _ => rfl⟩
  | n + 1 => by
    simp only [bits]
    have hp := Nat.two_pow_pos n
    constructor
    · intro h v h1 h2
      by_cases c : f (n + 1) = true
      · rw [if_pos c] at h; omega
      · rw [if_neg c] at h
        by_cases e : v = n + 1
        · subst e; simpa using c
        · exact bits_zero.mp (by omega) v h1 (by omega)
    · intro h
      rw [h (n + 1) (by omega) (by omega), bits_zero.mpr (fun v h1 h2 => h v h1 (by omega))]
      rfl
