/-! ===== the served prefixes ===== -/
theorem rc_frame {z : Nat} {T : TT} {w w' : Wd} (hz : z < 8) (h : RepC z T w) (hf : ∀ k, k < 472 → w' k = w k) : RepC z T w' := by
  obtain ⟨h1, h2, h3, h4, h5, h6, h7⟩ := h
  refine ⟨fun j hj => ?_, fun j hj => ?_, fun j hj => ?_, fun j hj => ?_, fun j hj => ?_, fun j hj => ?_, fun i hi => ?_⟩
  · rw [hf _ (by omega)]; exact h1 j hj
  · rw [hf _ (by omega)]; exact h2 j hj
  · rw [hf _ (by omega)]; exact h3 j hj
  · rw [hf _ (by omega)]; exact h4 j hj
  · rw [hf _ (by omega)]; exact h5 j hj
  · rw [hf _ (by omega)]; exact h6 j hj
  · rw [hf _ (by omega), hf _ (by omega)]; exact h7 i hi
def RepP (w : Wd) (P : Nat → Nat) : Prop := ∀ o, o < 4 → w 474 o = nI (P o)
def hasC (T : TT) (P : Nat → Nat) (o v : Nat) : Bool := decide (tt_ca T (96 * o + 4 * (v - 1)) ≤ P 0 ∧ tt_ca T (96 * o + 4 * (v - 1) + 1) ≤ P 1 ∧ tt_ca T (96 * o + 4 * (v - 1) + 2) ≤ P 2 ∧ tt_ca T (96 * o + 4 * (v - 1) + 3) ≤ P 3)
theorem e_hc_key {T : TT} {w : Wd} (h : RepC 0 T w) (I : InvB T) {P : Nat → Nat} (hP : RepP w P) (hb : ∀ o, P o ≤ 24) {B : Nat} (hBl : B + 3 < 384) (n : Nat) : m_X5_hasCausesIn_L15 (nI B) w (n + 5) (nI 0) = some (nI (if tt_ca T B ≤ P 0 ∧ tt_ca T (B + 1) ≤ P 1 ∧ tt_ca T (B + 2) ≤ P 2 ∧ tt_ca T (B + 3) ≤ P 3 then 1 else 0)) := by
  have c0 := it_ca I (j := B) (by omega)
  have c1 := it_ca I (j := B + 1) (by omega)
  have c2 := it_ca I (j := B + 2) (by omega)
  have c3 := it_ca I (j := B + 3) (by omega)
  have b0 := hb 0
  have b1 := hb 1
  have b2 := hb 2
  have b3 := hb 3
  have st : ∀ (n k c : Nat), k < 4 → B + k < 384 → tt_ca T (B + k) = c → c ≤ 24 → P k ≤ 24 → m_X5_hasCausesIn_L15 (nI B) w (n + 1) (nI k) = if c ≤ P k then m_X5_hasCausesIn_L15 (nI B) w n (nI (k + 1)) else some (nI 0) := by
    intro n k c hk hBk hc hc2 hPk
    rw [m_X5_hasCausesIn_L15]
    simp (disch := omega) only [lt_eq, bs_eq, pk_mul, nI_add, z_sub, z_m1, z_le, z_lt, z_eq, z_lt0, z_eq0, z_le0, z_0le, z_0lt, z_ib, nI_clamp, if_false, if_true, not_true_eq_false, not_false_eq_true, if_neg, if_pos, Nat.reduceAdd, Nat.reduceMul, rc_ca h, hP k hk, hc]
  have e4 : m_X5_hasCausesIn_L15 (nI B) w (n + 1) (nI 4) = some (nI 1) := by rw [m_X5_hasCausesIn_L15, if_pos (by decide)]
  rw [st (n + 4) 0 (tt_ca T B) (by omega) (by omega) rfl c0 b0, st (n + 3) 1 _ (by omega) (by omega) rfl c1 b1, st (n + 2) 2 _ (by omega) (by omega) rfl c2 b2, st (n + 1) 3 _ (by omega) (by omega) rfl c3 b3, e4]
  by_cases d0 : tt_ca T B ≤ P 0
  · rw [if_pos d0]
    by_cases d1 : tt_ca T (B + 1) ≤ P 1
    · rw [if_pos d1]
      by_cases d2 : tt_ca T (B + 2) ≤ P 2
      · rw [if_pos d2]
        by_cases d3 : tt_ca T (B + 3) ≤ P 3
        · rw [if_pos d3, if_pos ⟨d0, d1, d2, d3⟩]
        · rw [if_neg d3, if_neg (fun q => d3 q.2.2.2)]
      · rw [if_neg d2, if_neg (fun q => d2 q.2.2.1)]
    · rw [if_neg d1, if_neg (fun q => d1 q.2.1)]
  · rw [if_neg d0, if_neg (fun q => d0 q.1)]
theorem e_hasCausesIn {T : TT} {w : Wd} (h : RepC 0 T w) (I : InvB T) {P : Nat → Nat} (hP : RepP w P) (hb : ∀ o, P o ≤ 24) {o v : Nat} (ho : o < 4) (h1 : 1 ≤ v) (hv : v ≤ 24) : m_X5_hasCausesIn (nI o) (nI v) w = some (nI (if hasC T P o v then 1 else 0)) := by
  have e : (o * 24 + v - 1) * 4 = 96 * o + 4 * (v - 1) := by omega
  obtain ⟨B, hB⟩ : ∃ B, B = 96 * o + 4 * (v - 1) := ⟨_, rfl⟩
  obtain ⟨N, hN, -⟩ := FU5
  simp only [m_X5_hasCausesIn, lt_eq]
  rw [pk_mul, nI_add, z_sub (by omega), pk_mul, e, ← hB, hN, e_hc_key h I hP hb (by omega)]
  simp only [hasC, ← hB, decide_eq_true_eq]
/-- how far the versions of an origin have their causes -/
def cutv (T : TT) (P : Nat → Nat) (o : Nat) : Nat := fa_first (fun i => !hasC T P o (i + 1)) (P o)
theorem cutv_le (T : TT) (P : Nat → Nat) (o : Nat) : cutv T P o ≤ P o := fa_first_le _ _
def passO (T : TT) (P : Nat → Nat) (o : Nat) : Nat → Nat := va_up P o (cutv T P o)
def pass (T : TT) (P : Nat → Nat) : Nat → Nat := passO T (passO T (passO T (passO T P 0) 1) 2) 3
def itp (T : TT) : Nat → (Nat → Nat) → Nat → Nat
  | 0, P => P
  | n + 1, P => itp T n (pass T P)
theorem passO_le (T : TT) (P : Nat → Nat) (o j : Nat) : passO T P o j ≤ P j := by
  unfold passO
  by_cases e : j = o
  · subst e; rw [up_s]; exact cutv_le T P j
  · rw [up_n e]; exact Nat.le_refl _
theorem pass_le (T : TT) (P : Nat → Nat) (j : Nat) : pass T P j ≤ P j := Nat.le_trans (passO_le _ _ _ _) (Nat.le_trans (passO_le _ _ _ _) (Nat.le_trans (passO_le _ _ _ _) (passO_le _ _ _ _)))
theorem itp_le (T : TT) : ∀ n P j, itp T n P j ≤ P j
  | 0, _, _ => Nat.le_refl _
  | n + 1, P, j => Nat.le_trans (itp_le T n (pass T P) j) (pass_le T P j)
theorem itp_fix (T : TT) {P : Nat → Nat} (h : pass T P = P) : ∀ n, itp T n P = P
  | 0 => rfl
  | n + 1 => by rw [itp, h]; exact itp_fix T h n
theorem passO_same {T : TT} {P : Nat → Nat} {o : Nat} (h : cutv T P o = P o) : passO T P o = P := by
  funext j
  unfold passO
  by_cases e : j = o
  · subst e; rw [up_s]; exact h
  · rw [up_n e]
/-- the served prefixes of a proxy -/
def ini (T : TT) (p : Nat) : Nat → Nat := fun o => pre (tt_kn T (4 * p + o))
def pfx (T : TT) (p : Nat) : Nat → Nat := itp T 97 (ini T p)
theorem ini_le (T : TT) (p o : Nat) : ini T p o ≤ 24 := pre_le _
theorem pfx_ini (T : TT) (p o : Nat) : pfx T p o ≤ ini T p o := itp_le T 97 _ o
theorem pfx_le (T : TT) (p o : Nat) : pfx T p o ≤ 24 := Nat.le_trans (pfx_ini T p o) (ini_le T p o)
theorem e_fs_L59 {T : TT} {w : Wd} (h : RepC 0 T w) (I : InvB T) {P : Nat → Nat} (hP : RepP w P) (hb : ∀ o, P o ≤ 24) {o : Nat} (ho : o < 4) (x2 x3 : Int32) (kx : Int32 → Wd → Option Wd) : ∀ (d n k : Nat), k + d = cutv T P o → d < n → m_X0_findServed_L59 x2 x3 (nI o) kx n (nI k) w = kx (nI (cutv T P o)) w := by
  have hle := cutv_le T P o
  have hbo := hb o
  have hno := fa_first_no (fun i => !hasC T P o (i + 1)) (P o)
  have hyes := fa_first_yes (fun i => !hasC T P o (i + 1)) (P o)
  change ∀ k, k < cutv T P o → _ at hno
  change cutv T P o < P o → (!hasC T P o (cutv T P o + 1)) = true at hyes
  generalize cutv T P o = C at hle hno hyes ⊢
  intro d
  induction d with
  | zero =>
    intro n k hk hn
    obtain ⟨n, rfl⟩ : ∃ m, n = m + 1 := ⟨n - 1, by omega⟩
    have e : k = C := by omega
    subst e
    rw [m_X0_findServed_L59]
    simp (disch := omega) only [lt_eq, bs_eq, pk_mul, nI_add, z_sub, z_m1, z_le, z_lt, z_eq, z_lt0, z_eq0, z_le0, z_0le, z_0lt, z_ib, nI_clamp, if_false, if_true, not_true_eq_false, not_false_eq_true, if_neg, if_pos, Nat.reduceAdd, Nat.reduceMul, hP o ho]
    by_cases c : P o ≤ k
    · rw [if_pos c]
    · have hy := hyes (by omega)
      have hy2 : hasC T P o (k + 1) = false := by simpa using hy
      rw [if_neg c, e_hasCausesIn h I hP hb ho (by omega) (by omega), hy2, b_b, if_pos (by decide)]
  | succ d ih =>
    intro n k hk hn
    obtain ⟨n, rfl⟩ : ∃ m, n = m + 1 := ⟨n - 1, by omega⟩
    have hy2 : hasC T P o (k + 1) = true := by simpa using hno k (by omega)
    rw [m_X0_findServed_L59]
    simp (disch := omega) only [lt_eq, bs_eq, pk_mul, nI_add, z_sub, z_m1, z_le, z_lt, z_eq, z_lt0, z_eq0, z_le0, z_0le, z_0lt, z_ib, nI_clamp, if_false, if_true, not_true_eq_false, not_false_eq_true, if_neg, if_pos, Nat.reduceAdd, Nat.reduceMul, hP o ho]
    rw [e_hasCausesIn h I hP hb ho (by omega) (by omega), hy2, b_b, if_neg (by decide), ih n (k + 1) (by omega) (by omega)]
theorem repP_set {w : Wd} {P : Nat → Nat} (hP : RepP w P) (o c : Nat) : RepP (wset w 474 o (nI c)) (va_up P o c) := by
  intro j hj
  rw [wset_same]
  by_cases e : j = o
  · subst e; rw [upd_s, up_s]
  · rw [upd_n e, up_n e]; exact hP j hj
theorem e_fs_step {T : TT} {w : Wd} (h : RepC 0 T w) (I : InvB T) {P : Nat → Nat} (hP : RepP w P) (hb : ∀ o, P o ≤ 24) {o : Nat} (ho : o < 4) (x3 : Int32) (kx : Int32 → Wd → Option Wd) (n b : Nat) (hbb : b ≤ 1) : m_X0_findServed_L50 x3 kx (n + 1) (nI b) (nI o) w = m_X0_findServed_L50 x3 kx n (nI (if b = 0 ∧ cutv T P o = P o then 0 else 1)) (nI (o + 1)) (wset w 474 o (nI (cutv T P o))) := by
  have hle := cutv_le T P o
  have hbo := hb o
  rw [m_X0_findServed_L50, if_neg (by rw [z_le (by omega) (by omega)]; omega), e_fs_L59 h I hP hb ho _ _ _ (cutv T P o) FU 0 (by omega) (by show cutv T P o < 10000; omega)]
  generalize cutv T P o = C at hle ⊢
  simp only [m_X0_findServed_j97, m_X0_findServed_j113, m_X0_findServed_j118]
  by_cases c : b = 0
  · subst c
    simp (disch := omega) only [lt_eq, bs_eq, pk_mul, nI_add, z_sub, z_m1, z_le, z_lt, z_eq, z_lt0, z_eq0, z_le0, z_0le, z_0lt, z_ib, nI_clamp, if_false, if_true, not_true_eq_false, not_false_eq_true, if_neg, if_pos, Nat.reduceAdd, Nat.reduceMul, hP o ho]
    by_cases d : P o ≤ C
    · rw [if_pos d, if_pos ⟨trivial, by omega⟩]
    · rw [if_neg d, if_neg (fun q => d (by omega))]
  · simp (disch := omega) only [lt_eq, bs_eq, pk_mul, nI_add, z_sub, z_m1, z_le, z_lt, z_eq, z_lt0, z_eq0, z_le0, z_0le, z_0lt, z_ib, nI_clamp, if_false, if_true, not_true_eq_false, not_false_eq_true, if_neg, if_pos, Nat.reduceAdd, Nat.reduceMul, hP o ho]
theorem wset_474 {w : Wd} {o : Nat} {x : Int32} {k : Nat} (hk : k ≠ 474) : wset w 474 o x k = w k := wset_ne hk
theorem e_fs_pass {T : TT} {w : Wd} (h : RepC 0 T w) (I : InvB T) {P : Nat → Nat} (hP : RepP w P) (hb : ∀ o, P o ≤ 24) (x3 : Int32) (kx : Int32 → Wd → Option Wd) (n : Nat) : ∃ (b : Nat) (w' : Wd), b ≤ 1 ∧ (b = 0 → pass T P = P) ∧ m_X0_findServed_L50 x3 kx (n + 5) (nI 0) (nI 0) w = kx (nI b) w' ∧ RepP w' (pass T P) ∧ ∀ k, k ≠ 474 → w' k = w k := by
  have one : ∀ {P : Nat → Nat}, (∀ o, P o ≤ 24) → ∀ o j, passO T P o j ≤ 24 := fun hb o j => Nat.le_trans (passO_le _ _ _ _) (hb j)
  have hb1 := one hb 0
  have hb2 := one hb1 1
  have hb3 := one hb2 2
  obtain ⟨w1, e1⟩ : ∃ w1, w1 = wset w 474 0 (nI (cutv T P 0)) := ⟨_, rfl⟩
  have p1 : RepP w1 (passO T P 0) := by rw [e1]; exact repP_set hP 0 _
  have f1 : ∀ k, k ≠ 474 → w1 k = w k := fun k hk => by rw [e1, wset_ne hk]
  have h1 := rc_frame (by omega) h (fun k hk => f1 k (by omega))
  obtain ⟨w2, e2⟩ : ∃ w2, w2 = wset w1 474 1 (nI (cutv T (passO T P 0) 1)) := ⟨_, rfl⟩
  have p2 : RepP w2 (passO T (passO T P 0) 1) := by rw [e2]; exact repP_set p1 1 _
  have f2 : ∀ k, k ≠ 474 → w2 k = w k := fun k hk => by rw [e2, wset_ne hk, f1 k hk]
  have h2 := rc_frame (by omega) h (fun k hk => f2 k (by omega))
  obtain ⟨w3, e3⟩ : ∃ w3, w3 = wset w2 474 2 (nI (cutv T (passO T (passO T P 0) 1) 2)) := ⟨_, rfl⟩
  have p3 : RepP w3 (passO T (passO T (passO T P 0) 1) 2) := by rw [e3]; exact repP_set p2 2 _
  have f3 : ∀ k, k ≠ 474 → w3 k = w k := fun k hk => by rw [e3, wset_ne hk, f2 k hk]
  have h3 := rc_frame (by omega) h (fun k hk => f3 k (by omega))
  obtain ⟨w4, e4⟩ : ∃ w4, w4 = wset w3 474 3 (nI (cutv T (passO T (passO T (passO T P 0) 1) 2) 3)) := ⟨_, rfl⟩
  have p4 : RepP w4 (pass T P) := by rw [e4]; exact repP_set p3 3 _
  have f4 : ∀ k, k ≠ 474 → w4 k = w k := fun k hk => by rw [e4, wset_ne hk, f3 k hk]
  obtain ⟨b1, g1⟩ : ∃ b1, b1 = if 0 = 0 ∧ cutv T P 0 = P 0 then 0 else 1 := ⟨_, rfl⟩
  obtain ⟨b2, g2⟩ : ∃ b2, b2 = if b1 = 0 ∧ cutv T (passO T P 0) 1 = passO T P 0 1 then 0 else 1 := ⟨_, rfl⟩
  obtain ⟨b3, g3⟩ : ∃ b3, b3 = if b2 = 0 ∧ cutv T (passO T (passO T P 0) 1) 2 = passO T (passO T P 0) 1 2 then 0 else 1 := ⟨_, rfl⟩
  obtain ⟨b4, g4⟩ : ∃ b4, b4 = if b3 = 0 ∧ cutv T (passO T (passO T (passO T P 0) 1) 2) 3 = passO T (passO T (passO T P 0) 1) 2 3 then 0 else 1 := ⟨_, rfl⟩
  have l : ∀ {c : Prop} {_ : Decidable c} {x : Nat}, x = (if c then 0 else 1) → x ≤ 1 ∧ (x = 0 → c) := by
    intro c _ x hx
    by_cases hc : c
    · exact ⟨by rw [hx, if_pos hc]; omega, fun _ => hc⟩
    · exact ⟨by rw [hx, if_neg hc]; omega, fun hx0 => by rw [hx, if_neg hc] at hx0; omega⟩
  refine ⟨b4, w4, (l g4).1, fun z4 => ?_, ?_, p4, f4⟩
  · have q4 := (l g4).2 z4
    have q3 := (l g3).2 q4.1
    have q2 := (l g2).2 q3.1
    have q1 := (l g1).2 q2.1
    have r1 := passO_same q1.2
    have r2 := passO_same q2.2
    have r3 := passO_same q3.2
    have r4 := passO_same q4.2
    show passO T (passO T (passO T (passO T P 0) 1) 2) 3 = P
    rw [r4, r3, r2, r1]
  · rw [e_fs_step h I hP hb (by omega) x3 kx (n + 4) 0 (by omega), ← g1, ← e1, e_fs_step h1 I p1 hb1 (by omega) x3 kx (n + 3) b1 (l g1).1, ← g2, ← e2, e_fs_step h2 I p2 hb2 (by omega) x3 kx (n + 2) b2 (l g2).1, ← g3, ← e3, e_fs_step h3 I p3 hb3 (by omega) x3 kx (n + 1) b3 (l g3).1, ← g4, ← e4, m_X0_findServed_L50, if_pos (by decide)]
theorem e_fs_L35 {T : TT} (I : InvB T) : ∀ (d n c b : Nat) (P : Nat → Nat) (w : Wd), c + d = 97 → d < n → b ≤ 1 → (b = 0 → pass T P = P) → RepC 0 T w → RepP w P → (∀ o, P o ≤ 24) → ∃ w', m_X0_findServed_L35 n (nI b) (nI c) w = some w' ∧ RepP w' (itp T d P) ∧ ∀ k, k ≠ 474 → w' k = w k := by
  intro d
  induction d with
  | zero =>
    intro n c b P w hc hn hb1 hfix h hP hb
    obtain ⟨n, rfl⟩ : ∃ m, n = m + 1 := ⟨n - 1, by omega⟩
    exact ⟨w, by rw [m_X0_findServed_L35, if_pos (by rw [z_lt (by omega) (by omega)]; omega)], hP, fun _ _ => rfl⟩
  | succ d ih =>
    intro n c b P w hc hn hb1 hfix h hP hb
    obtain ⟨n, rfl⟩ : ∃ m, n = m + 1 := ⟨n - 1, by omega⟩
    rw [m_X0_findServed_L35, if_neg (by rw [z_lt (by omega) (by omega)]; omega)]
    by_cases cb : b = 0
    · subst cb
      refine ⟨w, if_pos rfl, ?_, fun _ _ => rfl⟩
      rw [itp_fix T (hfix rfl)]
      exact hP
    · obtain ⟨N, hN, -⟩ := FU5
      rw [if_neg (by rw [z_eq0 (by omega)]; exact cb), hN]
      obtain ⟨b', w1, q1, q2, q3, q4, q5⟩ := e_fs_pass h I hP hb (nI c) (fun x2_1 w2 => m_X0_findServed_L35 n x2_1 (nI c + nI 1) w2) N
      rw [q3]
      have hb' : ∀ o, pass T P o ≤ 24 := fun o => Nat.le_trans (pass_le T P o) (hb o)
      obtain ⟨w', r1, r2, r3⟩ := ih n (c + 1) b' (pass T P) w1 (by omega) (by omega) q1 (fun z => by rw [q2 z]; exact q2 z) (rc_frame (by omega) h (fun k hk => q5 k (by omega))) q4 hb'
      exact ⟨w', by rw [nI_add]; exact r1, r2, fun k hk => (r3 k hk).trans (q5 k hk)⟩
theorem e_findServed {T : TT} {w : Wd} (h : RepC 0 T w) (I : InvB T) {p : Nat} (hp : p < 8) : ∃ w', m_X0_findServed (nI p) w = some w' ∧ RepP w' (pfx T p) ∧ ∀ k, k ≠ 474 → w' k = w k := by
  have key : ∀ n (kx : Wd → Option Wd), ∃ w', m_X0_findServed_L2 (nI p) kx (n + 5) (nI 0) w = kx w' ∧ RepP w' (ini T p) ∧ ∀ k, k ≠ 474 → w' k = w k := by
    intro n kx
    obtain ⟨w1, e1⟩ : ∃ w1, w1 = wset w 474 0 (nI (ini T p 0)) := ⟨_, rfl⟩
    have f1 : ∀ k, k ≠ 474 → w1 k = w k := fun k hk => by rw [e1, wset_ne hk]
    have h1 := rc_frame (by omega) h (fun k hk => f1 k (by omega))
    obtain ⟨w2, e2⟩ : ∃ w2, w2 = wset w1 474 1 (nI (ini T p 1)) := ⟨_, rfl⟩
    have f2 : ∀ k, k ≠ 474 → w2 k = w k := fun k hk => by rw [e2, wset_ne hk, f1 k hk]
    have h2 := rc_frame (by omega) h (fun k hk => f2 k (by omega))
    obtain ⟨w3, e3⟩ : ∃ w3, w3 = wset w2 474 2 (nI (ini T p 2)) := ⟨_, rfl⟩
    have f3 : ∀ k, k ≠ 474 → w3 k = w k := fun k hk => by rw [e3, wset_ne hk, f2 k hk]
    have h3 := rc_frame (by omega) h (fun k hk => f3 k (by omega))
    obtain ⟨w4, e4⟩ : ∃ w4, w4 = wset w3 474 3 (nI (ini T p 3)) := ⟨_, rfl⟩
    have f4 : ∀ k, k ≠ 474 → w4 k = w k := fun k hk => by rw [e4, wset_ne hk, f3 k hk]
    have st : ∀ {u : Wd}, RepC 0 T u → ∀ (o n : Nat), o < 4 → m_X0_findServed_L2 (nI p) kx (n + 1) (nI o) u = m_X0_findServed_L2 (nI p) kx n (nI (o + 1)) (wset u 474 o (nI (ini T p o))) := by
      intro u hu o n ho
      rw [m_X0_findServed_L2, if_neg (by rw [z_le (by omega) (by omega)]; omega), e_knownOf hu hp ho, b_b, e_prefixOf, b_b, if_pos (by rw [z_ib (by omega)]; exact ho), nI_clamp (by omega), nI_add]
      rfl
    refine ⟨w4, ?_, ?_, f4⟩
    · rw [st h 0 (n + 4) (by omega), ← e1, st h1 1 (n + 3) (by omega), ← e2, st h2 2 (n + 2) (by omega), ← e3, st h3 3 (n + 1) (by omega), ← e4, m_X0_findServed_L2, if_pos (by decide)]
    · intro o ho
      rw [e4, wset_same]
      rcases (show o = 0 ∨ o = 1 ∨ o = 2 ∨ o = 3 by omega) with rfl | rfl | rfl | rfl
      · rw [upd_n (by omega), e3, wset_same, upd_n (by omega), e2, wset_same, upd_n (by omega), e1, wset_same, upd_s]
      · rw [upd_n (by omega), e3, wset_same, upd_n (by omega), e2, wset_same, upd_s]
      · rw [upd_n (by omega), e3, wset_same, upd_s]
      · rw [upd_s]
  obtain ⟨N, hN, hb⟩ := FU5
  obtain ⟨w1, k1, k2, k3⟩ := key N (fun w1 => m_X0_findServed_L35 (N + 5) (nI 1) (nI 0) w1)
  obtain ⟨w', r1, r2, r3⟩ := e_fs_L35 I 97 (N + 5) 0 1 (ini T p) w1 (by omega) (by omega) (by omega) (fun z => by omega) (rc_frame (by omega) h (fun k hk => k3 k (by omega))) k2 (ini_le T p)
  refine ⟨w', ?_, r2, fun k hk => (r3 k hk).trans (k3 k hk)⟩
  rw [m_X0_findServed, hN, k1]
  exact r1
