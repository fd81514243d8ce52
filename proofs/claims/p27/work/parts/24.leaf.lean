/-! ===== the class: leaves ===== -/
section LEAF
variable {T : TT} {w : Wd}
theorem rc_nu (h : RepC 0 T w) {j : Nat} (hj : j < 7) : w 50 j = nI (tt_nu T j) := h.1 j hj
theorem rc_pa (h : RepC 0 T w) {p : Nat} (hp : p < 8) : w 51 p = nI (tt_pa T p) := h.2.1 p hp
theorem rc_ho (h : RepC 0 T w) {o : Nat} (ho : o < 4) : w 52 o = nI (tt_ho T o) := h.2.2.1 o ho
theorem rc_wr (h : RepC 0 T w) {o : Nat} (ho : o < 4) : w 53 o = nI (tt_wr T o) := h.2.2.2.1 o ho
theorem rc_kn (h : RepC 0 T w) {j : Nat} (hj : j < 32) : w 54 j = nI (bits (tt_kn T j) 24) := h.2.2.2.2.1 j hj
theorem rc_ca (h : RepC 0 T w) {j : Nat} (hj : j < 384) : w 55 j = nI (tt_ca T j) := h.2.2.2.2.2.1 j hj
theorem rc_li (h : RepC 0 T w) {i : Nat} (hi : i < 24) : RLn (w (2 * i) 1) (w (2 * i + 1)) (tt_li T i) := by
  have := h.2.2.2.2.2.2 i hi
  rwa [Nat.mul_zero, Nat.zero_add] at this
theorem it_np (I : InvB T) : 1 ≤ tt_nu T 0 ∧ tt_nu T 0 ≤ 8 := I.1
theorem it_wr (I : InvT T) {o : Nat} (ho : o < 4) : tt_wr T o ≤ 24 := I.2.2.2.2.2.1 o ho
theorem it_ca (I : InvB T) {j : Nat} (hj : j < 384) : tt_ca T j ≤ 24 := I.2.2.2.2 j hj
theorem e_hasProxy (h : RepC 0 T w) (I : InvB T) {p : Nat} (hp : p < tt_nu T 0) : m_X5_hasProxy (nI p) w = some (nI 1) := by
  have := it_np I
  simp (disch := omega) only [lt_eq, bs_eq, pk_mul, nI_add, z_sub, z_m1, z_le, z_lt, z_eq, z_lt0, z_eq0, z_le0, z_0le, z_0lt, z_ib, nI_clamp, if_false, if_true, not_true_eq_false, not_false_eq_true, if_neg, if_pos, Nat.reduceAdd, Nat.reduceMul, m_X5_hasProxy, rc_nu h]
theorem e_hasProxy_no (h : RepC 0 T w) (I : InvB T) {p : Nat} (hp : tt_nu T 0 ≤ p) (hb : p < 2 ^ 31) : m_X5_hasProxy (nI p) w = some (nI 0) := by
  have := it_np I
  simp (disch := omega) only [lt_eq, bs_eq, pk_mul, nI_add, z_sub, z_m1, z_le, z_lt, z_eq, z_lt0, z_eq0, z_le0, z_0le, z_0lt, z_ib, nI_clamp, if_false, if_true, not_true_eq_false, not_false_eq_true, if_neg, if_pos, Nat.reduceAdd, Nat.reduceMul, m_X5_hasProxy, rc_nu h]
theorem e_hasProxy_neg {x : Int32} (hx : x < 0) : m_X5_hasProxy x w = some (nI 0) := by
  rw [m_X5_hasProxy, if_pos hx]
theorem e_hasChild (h : RepC 0 T w) (I : InvB T) {p : Nat} (h1 : 1 ≤ p) (hp : p < tt_nu T 0) : m_X5_hasChild (nI p) w = some (nI 1) := by
  have := it_np I
  simp (disch := omega) only [lt_eq, bs_eq, pk_mul, nI_add, z_sub, z_m1, z_le, z_lt, z_eq, z_lt0, z_eq0, z_le0, z_0le, z_0lt, z_ib, nI_clamp, if_false, if_true, not_true_eq_false, not_false_eq_true, if_neg, if_pos, Nat.reduceAdd, Nat.reduceMul, m_X5_hasChild, rc_nu h]
theorem e_hasChild_no (h : RepC 0 T w) (I : InvB T) {p : Nat} (hp : p = 0 ∨ tt_nu T 0 ≤ p) (hb : p < 2 ^ 31) : m_X5_hasChild (nI p) w = some (nI 0) := by
  have := it_np I
  rcases hp with rfl | hp
  · rfl
  · simp (disch := omega) only [lt_eq, bs_eq, pk_mul, nI_add, z_sub, z_m1, z_le, z_lt, z_eq, z_lt0, z_eq0, z_le0, z_0le, z_0lt, z_ib, nI_clamp, if_false, if_true, not_true_eq_false, not_false_eq_true, if_neg, if_pos, Nat.reduceAdd, Nat.reduceMul, m_X5_hasChild, rc_nu h]
theorem e_hasChild_neg {x : Int32} (hx : x < 0) : m_X5_hasChild x w = some (nI 0) := by
  rw [m_X5_hasChild, if_pos (fa_of_lt hx).1]
theorem e_isOrigin {o : Nat} (ho : o < 4) : m_X7_isOrigin (nI o) = some (nI 1) := by
  simp (disch := omega) only [lt_eq, bs_eq, pk_mul, nI_add, z_sub, z_m1, z_le, z_lt, z_eq, z_lt0, z_eq0, z_le0, z_0le, z_0lt, z_ib, nI_clamp, if_false, if_true, not_true_eq_false, not_false_eq_true, if_neg, if_pos, Nat.reduceAdd, Nat.reduceMul, m_X7_isOrigin]
theorem e_isOrigin_no {o : Nat} (ho : 4 ≤ o) (hb : o < 2 ^ 31) : m_X7_isOrigin (nI o) = some (nI 0) := by
  simp (disch := omega) only [lt_eq, bs_eq, pk_mul, nI_add, z_sub, z_m1, z_le, z_lt, z_eq, z_lt0, z_eq0, z_le0, z_0le, z_0lt, z_ib, nI_clamp, if_false, if_true, not_true_eq_false, not_false_eq_true, if_neg, if_pos, Nat.reduceAdd, Nat.reduceMul, m_X7_isOrigin]
theorem e_isOrigin_neg {x : Int32} (hx : x < 0) : m_X7_isOrigin x = some (nI 0) := by
  rw [m_X7_isOrigin, if_pos hx]
theorem e_writtenOf (h : RepC 0 T w) {o : Nat} (ho : o < 4) : m_X5_writtenOf (nI o) w = some (nI (tt_wr T o)) := by
  simp (disch := omega) only [lt_eq, bs_eq, pk_mul, nI_add, z_sub, z_m1, z_le, z_lt, z_eq, z_lt0, z_eq0, z_le0, z_0le, z_0lt, z_ib, nI_clamp, if_false, if_true, not_true_eq_false, not_false_eq_true, if_neg, if_pos, Nat.reduceAdd, Nat.reduceMul, m_X5_writtenOf, rc_wr h]
theorem e_homeOf (h : RepC 0 T w) {o : Nat} (ho : o < 4) : m_X5_homeOf (nI o) w = some (nI (tt_ho T o)) := by
  simp (disch := omega) only [lt_eq, bs_eq, pk_mul, nI_add, z_sub, z_m1, z_le, z_lt, z_eq, z_lt0, z_eq0, z_le0, z_0le, z_0lt, z_ib, nI_clamp, if_false, if_true, not_true_eq_false, not_false_eq_true, if_neg, if_pos, Nat.reduceAdd, Nat.reduceMul, m_X5_homeOf, rc_ho h]
theorem e_parentOf (h : RepC 0 T w) {p : Nat} (hp : p < 8) : m_X5_parentOf (nI p) w = some (nI (tt_pa T p)) := by
  simp (disch := omega) only [lt_eq, bs_eq, pk_mul, nI_add, z_sub, z_m1, z_le, z_lt, z_eq, z_lt0, z_eq0, z_le0, z_0le, z_0lt, z_ib, nI_clamp, if_false, if_true, not_true_eq_false, not_false_eq_true, if_neg, if_pos, Nat.reduceAdd, Nat.reduceMul, m_X5_parentOf, rc_pa h]
theorem e_knownOf (h : RepC 0 T w) {p o : Nat} (hp : p < 8) (ho : o < 4) : m_X5_knownOf (nI p) (nI o) w = some (nI (bits (tt_kn T (4 * p + o)) 24)) := by
  simp (disch := omega) only [lt_eq, bs_eq, pk_mul, nI_add, z_sub, z_m1, z_le, z_lt, z_eq, z_lt0, z_eq0, z_le0, z_0le, z_0lt, z_ib, nI_clamp, if_false, if_true, not_true_eq_false, not_false_eq_true, if_neg, if_pos, Nat.reduceAdd, Nat.reduceMul, m_X5_knownOf, rc_kn h]
  rw [Nat.mul_comm]
theorem e_causeOf (h : RepC 0 T w) {o v f : Nat} (ho : o < 4) (h1 : 1 ≤ v) (hv : v ≤ 24) (hf : f < 4) : m_X5_causeOf (nI o) (nI v) (nI f) w = some (nI (tt_ca T (96 * o + 4 * (v - 1) + f))) := by
  simp (disch := omega) only [lt_eq, bs_eq, pk_mul, nI_add, z_sub, z_m1, z_le, z_lt, z_eq, z_lt0, z_eq0, z_le0, z_0le, z_0lt, z_ib, nI_clamp, if_false, if_true, not_true_eq_false, not_false_eq_true, if_neg, if_pos, Nat.reduceAdd, Nat.reduceMul, m_X5_causeOf, rc_ca h]
  rw [show (o * 24 + v - 1) * 4 + f = 96 * o + 4 * (v - 1) + f by omega]
theorem e_updateOf (o v : Nat) : m_X7_updateOf (nI o) (nI v) = some (nI (100 * o + v)) := by
  simp (disch := omega) only [lt_eq, bs_eq, pk_mul, nI_add, z_sub, z_m1, z_le, z_lt, z_eq, z_lt0, z_eq0, z_le0, z_0le, z_0lt, z_ib, nI_clamp, if_false, if_true, not_true_eq_false, not_false_eq_true, if_neg, if_pos, Nat.reduceAdd, Nat.reduceMul, m_X7_updateOf]
theorem e_originOf {o v : Nat} (ho : o < 4) (hv : v ≤ 24) : m_X7_originOf (nI (100 * o + v)) = some (nI o) := by
  rw [m_X7_originOf, pk_div (by omega) (by omega) (by omega), show (100 * o + v) / 100 = o by omega]
theorem e_versionOf {o v : Nat} (ho : o < 4) (hv : v ≤ 24) : m_X7_versionOf (nI (100 * o + v)) = some (nI v) := by
  rw [m_X7_versionOf, pk_rem (by omega) (by omega) (by omega), show (100 * o + v) % 100 = v by omega]
theorem e_isTakeable {n : Nat} (h1 : 1 ≤ n) (h9 : n ≤ 9) : m_X3_isTakeable (nI n) = some (nI 1) := by
  simp (disch := omega) only [lt_eq, bs_eq, pk_mul, nI_add, z_sub, z_m1, z_le, z_lt, z_eq, z_lt0, z_eq0, z_le0, z_0le, z_0lt, z_ib, nI_clamp, if_false, if_true, not_true_eq_false, not_false_eq_true, if_neg, if_pos, Nat.reduceAdd, Nat.reduceMul, m_X3_isTakeable]
theorem e_isTakeable_no {n : Nat} (h : n = 0 ∨ 9 < n) (hb : n < 2 ^ 31) : m_X3_isTakeable (nI n) = some (nI 0) := by
  rcases h with rfl | h
  · rfl
  · simp (disch := omega) only [lt_eq, bs_eq, pk_mul, nI_add, z_sub, z_m1, z_le, z_lt, z_eq, z_lt0, z_eq0, z_le0, z_0le, z_0lt, z_ib, nI_clamp, if_false, if_true, not_true_eq_false, not_false_eq_true, if_neg, if_pos, Nat.reduceAdd, Nat.reduceMul, m_X3_isTakeable]
theorem e_isTakeable_neg {x : Int32} (hx : x < 0) : m_X3_isTakeable x = some (nI 0) := by
  rw [m_X3_isTakeable, if_pos]
  rw [fa_lt] at hx ⊢
  have e1 : (0 : Int32).toInt = 0 := by decide
  have e2 : (nI 1).toInt = 1 := by decide
  omega
end LEAF
