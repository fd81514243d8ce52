/-! ===== missing ===== -/
def upC (T : TT) (B : Nat) (N : Nat → Nat) (f : Nat) : Nat → Nat := va_up N f (max (N f) (tt_ca T (B + f)))
def upV (T : TT) (B : Nat) (N : Nat → Nat) : Nat → Nat := upC T B (upC T B (upC T B (upC T B N 0) 1) 2) 3
def upL (T : TT) (o : Nat) : Nat → (Nat → Nat) → Nat → Nat
  | 0, N => N
  | n + 1, N => upV T (96 * o + 4 * n) (upL T o n N)
def npO (T : TT) (N : Nat → Nat) (o : Nat) : Nat → Nat := upL T o (N o) N
def npass (T : TT) (N : Nat → Nat) : Nat → Nat := npO T (npO T (npO T (npO T N 0) 1) 2) 3
def nit (T : TT) : Nat → (Nat → Nat) → Nat → Nat
  | 0, N => N
  | n + 1, N => nit T n (npass T N)
def nini (o v : Nat) : Nat → Nat := fun e => if e = o then v else 0
def nds (T : TT) (o v : Nat) : Nat → Nat := nit T 97 (nini o v)
def nmiss (T : TT) (p : Nat) (N : Nat → Nat) (o : Nat) : Nat := fb_ct (fun i => !tt_kn T (4 * p + o) (i + 1)) (N o)
def missC (T : TT) (p o v : Nat) : Nat := nmiss T p (nds T o v) 0 + nmiss T p (nds T o v) 1 + nmiss T p (nds T o v) 2 + nmiss T p (nds T o v) 3
theorem upC_le {T : TT} (hc : ∀ j, j < 384 → tt_ca T j ≤ 24) {B : Nat} {N : Nat → Nat} (hb : ∀ o, N o ≤ 24) {f : Nat} (hB : B + f < 384) : ∀ o, upC T B N f o ≤ 24 := by
  intro o
  unfold upC
  by_cases e : o = f
  · subst e; rw [up_s]
    exact Nat.max_le.mpr ⟨hb o, hc _ hB⟩
  · rw [up_n e]; exact hb o
theorem upV_le {T : TT} (hc : ∀ j, j < 384 → tt_ca T j ≤ 24) {B : Nat} {N : Nat → Nat} (hb : ∀ o, N o ≤ 24) (hB : B + 3 < 384) : ∀ o, upV T B N o ≤ 24 := upC_le hc (upC_le hc (upC_le hc (upC_le hc hb (by omega)) (by omega)) (by omega)) (by omega)
theorem upL_le {T : TT} (hc : ∀ j, j < 384 → tt_ca T j ≤ 24) {o : Nat} (ho : o < 4) {N : Nat → Nat} (hb : ∀ o, N o ≤ 24) : ∀ n, n ≤ 24 → ∀ j, upL T o n N j ≤ 24 := by
  intro n
  induction n with
  | zero => intro _; exact hb
  | succ n ih => intro hn; exact upV_le hc (ih (by omega)) (by omega)
theorem npO_le {T : TT} (hc : ∀ j, j < 384 → tt_ca T j ≤ 24) {o : Nat} (ho : o < 4) {N : Nat → Nat} (hb : ∀ o, N o ≤ 24) : ∀ j, npO T N o j ≤ 24 := upL_le hc ho hb _ (hb o)
theorem npass_le {T : TT} (hc : ∀ j, j < 384 → tt_ca T j ≤ 24) {N : Nat → Nat} (hb : ∀ o, N o ≤ 24) : ∀ j, npass T N j ≤ 24 := npO_le hc (by omega) (npO_le hc (by omega) (npO_le hc (by omega) (npO_le hc (by omega) hb)))
theorem nit_fix (T : TT) {N : Nat → Nat} (h : npass T N = N) : ∀ n, nit T n N = N := by
  intro n
  induction n with
  | zero => rfl
  | succ n ih => rw [nit, h, ih]
theorem nit_le {T : TT} (hc : ∀ j, j < 384 → tt_ca T j ≤ 24) : ∀ (n : Nat) (N : Nat → Nat), (∀ o, N o ≤ 24) → ∀ j, nit T n N j ≤ 24 := by
  intro n
  induction n with
  | zero => intro N hb; exact hb
  | succ n ih => intro N hb; exact ih _ (npass_le hc hb)
def RepN (w : Wd) (N : Nat → Nat) : Prop := ∀ o, o < 4 → w 475 o = nI (N o)
theorem repN_set {w : Wd} {N : Nat → Nat} (hN : RepN w N) (o c : Nat) : RepN (wset w 475 o (nI c)) (va_up N o c) := by
  intro j hj
  rw [wset_same]
  by_cases e : j = o
  · subst e; rw [upd_s, up_s]
  · rw [upd_n e, up_n e]; exact hN j hj
theorem rc_475 {T : TT} {w w' : Wd} (h : RepC 0 T w) (hf : ∀ k, k ≠ 475 → w' k = w k) : RepC 0 T w' := rc_frame (by omega) h (fun k hk => hf k (by omega))
section MISSING
variable {T : TT} {w : Wd}
theorem e_ac_step (h : RepC 0 T w) (I : InvB T) {N : Nat → Nat} (hN : RepN w N) (hb : ∀ o, N o ≤ 24) {o v f : Nat} (ho : o < 4) (hv : v < 24) (hf : f < 4) (x3 : Int32) (kx : Int32 → Wd → Option (Int32 × Wd)) (n b : Nat) (hbb : b ≤ 1) : ∃ b' w', b' ≤ 1 ∧ (b' = 0 → b = 0 ∧ upC T (96 * o + 4 * v) N f = N) ∧ m_X0_addCausesOf_L45 (nI o) x3 (nI (v + 1)) kx (n + 1) (nI b) (nI f) w = m_X0_addCausesOf_L45 (nI o) x3 (nI (v + 1)) kx n (nI b') (nI (f + 1)) w' ∧ RepN w' (upC T (96 * o + 4 * v) N f) ∧ (∀ k, k ≠ 475 → w' k = w k) := by
  have hc := it_ca I (j := 96 * o + 4 * v + f) (by omega)
  have hbf := hb f
  rw [m_X0_addCausesOf_L45, if_neg (by rw [z_le (by omega) (by omega)]; omega), e_causeOf h ho (by omega) (by omega) hf, b_b, if_pos (by rw [z_ib (by omega)]; exact hf)]
  have e0 : 96 * o + 4 * (v + 1 - 1) + f = 96 * o + 4 * v + f := by omega
  by_cases c : tt_ca T (96 * o + 4 * v + f) ≤ N f
  · have e : upC T (96 * o + 4 * v) N f = N := by
      funext j
      unfold upC
      by_cases d : j = f
      · subst d; rw [up_s]; omega
      · rw [up_n d]
    refine ⟨b, w, hbb, fun z => ⟨z, e⟩, ?_, by rw [e]; exact hN, fun _ _ => rfl⟩
    rw [if_pos (by rw [nI_clamp (by omega), hN f hf, e0, z_le (by omega) (by omega)]; exact c), m_X0_addCausesOf_j88, nI_add]
  · have e : upC T (96 * o + 4 * v) N f = va_up N f (tt_ca T (96 * o + 4 * v + f)) := by
      unfold upC
      rw [Nat.max_eq_right (by omega)]
    refine ⟨1, wset w 475 f (nI (tt_ca T (96 * o + 4 * v + f))), by omega, fun z => by omega, ?_, by rw [e]; exact repN_set hN _ _, fun k hk => wset_ne hk⟩
    rw [if_neg (by rw [nI_clamp (by omega), hN f hf, e0, z_le (by omega) (by omega)]; exact c), if_pos (by rw [z_ib (by omega)]; exact hf), lt_eq, nI_clamp (by omega), e0, m_X0_addCausesOf_j88, nI_add]
theorem e_ac_ver (h : RepC 0 T w) (I : InvB T) {N : Nat → Nat} (hN : RepN w N) (hb : ∀ o, N o ≤ 24) {o v : Nat} (ho : o < 4) (hv : v < 24) (x3 : Int32) (kx : Int32 → Wd → Option (Int32 × Wd)) (n b : Nat) (hbb : b ≤ 1) : ∃ b' w', b' ≤ 1 ∧ (b' = 0 → b = 0 ∧ upV T (96 * o + 4 * v) N = N) ∧ m_X0_addCausesOf_L45 (nI o) x3 (nI (v + 1)) kx (n + 5) (nI b) (nI 0) w = kx (nI b') w' ∧ RepN w' (upV T (96 * o + 4 * v) N) ∧ (∀ k, k ≠ 475 → w' k = w k) := by
  have hc := I.2.2.2.2
  obtain ⟨b1, w1, l1, z1, e1, r1, f1⟩ := e_ac_step h I hN hb ho hv (f := 0) (by omega) x3 kx (n + 4) b hbb
  have hb1 := upC_le hc hb (B := 96 * o + 4 * v) (f := 0) (by omega)
  obtain ⟨b2, w2, l2, z2, e2, r2, f2⟩ := e_ac_step (rc_475 h f1) I r1 hb1 ho hv (f := 1) (by omega) x3 kx (n + 3) b1 l1
  have hb2 := upC_le hc hb1 (B := 96 * o + 4 * v) (f := 1) (by omega)
  obtain ⟨b3, w3, l3, z3, e3, r3, f3⟩ := e_ac_step (rc_475 (rc_475 h f1) f2) I r2 hb2 ho hv (f := 2) (by omega) x3 kx (n + 2) b2 l2
  have hb3 := upC_le hc hb2 (B := 96 * o + 4 * v) (f := 2) (by omega)
  obtain ⟨b4, w4, l4, z4, e4, r4, f4⟩ := e_ac_step (rc_475 (rc_475 (rc_475 h f1) f2) f3) I r3 hb3 ho hv (f := 3) (by omega) x3 kx (n + 1) b3 l3
  refine ⟨b4, w4, l4, fun z => ?_, ?_, r4, fun k hk => by rw [f4 k hk, f3 k hk, f2 k hk, f1 k hk]⟩
  · obtain ⟨y3, q4⟩ := z4 z
    obtain ⟨y2, q3⟩ := z3 y3
    obtain ⟨y1, q2⟩ := z2 y2
    obtain ⟨y0, q1⟩ := z1 y1
    exact ⟨y0, by unfold upV; rw [q4, q3, q2, q1]⟩
  · rw [e1, e2, e3, e4, m_X0_addCausesOf_L45, if_pos (by decide)]
theorem e_ac_L29 (I : InvB T) {o : Nat} (ho : o < 4) {N0 : Nat → Nat} (hb0 : ∀ o, N0 o ≤ 24) {L : Nat} (hL : L ≤ 24) : ∀ (d n v b : Nat) (w : Wd), v + d = L → d < n → b ≤ 1 → (b = 0 → upL T o v N0 = N0) → RepC 0 T w → RepN w (upL T o v N0) → ∃ b' w', b' ≤ 1 ∧ (b' = 0 → upL T o L N0 = N0) ∧ m_X0_addCausesOf_L29 (nI o) (nI L) n (nI b) (nI (v + 1)) w = some (nI b', w') ∧ RepN w' (upL T o L N0) ∧ (∀ k, k ≠ 475 → w' k = w k) := by
  have hc := I.2.2.2.2
  intro d
  induction d with
  | zero =>
    intro n v b w hv hn hbb hz h hN
    obtain ⟨n, rfl⟩ : ∃ m, n = m + 1 := ⟨n - 1, by omega⟩
    have e : v = L := by omega
    subst e
    refine ⟨b, w, hbb, hz, ?_, hN, fun _ _ => rfl⟩
    by_cases g : 24 < v + 1
    · rw [m_X0_addCausesOf_L29, if_pos (by rw [z_lt (by omega) (by omega)]; omega)]
      rcases (show b = 0 ∨ b = 1 by omega) with rfl | rfl <;> rfl
    · rw [m_X0_addCausesOf_L29, if_neg (by rw [z_lt (by omega) (by omega)]; omega), if_pos (by rw [z_lt (by omega) (by omega)]; omega)]
      rcases (show b = 0 ∨ b = 1 by omega) with rfl | rfl <;> rfl
  | succ d ih =>
    intro n v b w hv hn hbb hz h hN
    obtain ⟨n, rfl⟩ : ∃ m, n = m + 1 := ⟨n - 1, by omega⟩
    obtain ⟨M, hM, -⟩ := FU5
    rw [m_X0_addCausesOf_L29, if_neg (by rw [z_lt (by omega) (by omega)]; omega), if_neg (by rw [z_lt (by omega) (by omega)]; omega), hM]
    obtain ⟨b1, w1, l1, z1, e1, r1, f1⟩ := e_ac_ver h I hN (upL_le hc ho hb0 v (by omega)) ho (v := v) (by omega) (nI L) (fun x2_1 w2 => (m_X0_addCausesOf_L29 (nI o) (nI L) n) x2_1 (nI (v + 1) + (nI 1)) w2) M b hbb
    rw [e1, nI_add]
    obtain ⟨b2, w2, l2, z2, e2, r2, f2⟩ := ih n (v + 1) b1 w1 (by omega) (by omega) l1 (fun z => by
      obtain ⟨y, q⟩ := z1 z
      rw [upL, q, hz y]) (rc_475 h f1) r1
    exact ⟨b2, w2, l2, z2, e2, r2, fun k hk => (f2 k hk).trans (f1 k hk)⟩
theorem e_addCausesOf (h : RepC 0 T w) (I : InvB T) {N : Nat → Nat} (hN : RepN w N) (hb : ∀ o, N o ≤ 24) {o : Nat} (ho : o < 4) : ∃ b w', b ≤ 1 ∧ (b = 0 → npO T N o = N) ∧ m_X0_addCausesOf (nI o) w = some (nI b, w') ∧ RepN w' (npO T N o) ∧ (∀ k, k ≠ 475 → w' k = w k) := by
  have hF := FUb
  obtain ⟨b, w', l, z, e, r, f⟩ := e_ac_L29 I ho hb (hb o) (N o) FU 0 0 w (by omega) (by have := hb o; omega) (by omega) (fun _ => rfl) h hN
  refine ⟨b, w', l, z, ?_, r, f⟩
  rw [m_X0_addCausesOf, if_neg (nI_pos (by omega)), if_neg (by rw [z_le (by omega) (by omega)]; omega), if_pos (by rw [z_ib (by omega)]; exact ho), nI_clamp (by omega), hN o ho]
  exact e
theorem e_fn_step (h : RepC 0 T w) (I : InvB T) {N : Nat → Nat} (hN : RepN w N) (hb : ∀ o, N o ≤ 24) {o : Nat} (ho : o < 4) (x4 : Int32) (kx : Int32 → Wd → Option Wd) (n b : Nat) (hbb : b ≤ 1) : ∃ b' w', b' ≤ 1 ∧ (b' = 0 → b = 0 ∧ npO T N o = N) ∧ m_X0_findNeeds_L50 x4 kx (n + 1) (nI b) (nI o) w = m_X0_findNeeds_L50 x4 kx n (nI b') (nI (o + 1)) w' ∧ RepN w' (npO T N o) ∧ (∀ k, k ≠ 475 → w' k = w k) := by
  obtain ⟨b1, w1, l1, z1, e1, r1, f1⟩ := e_addCausesOf h I hN hb ho
  rw [m_X0_findNeeds_L50, if_neg (by rw [z_le (by omega) (by omega)]; omega), e1, b_b]
  dsimp only
  by_cases c : b1 = 0
  · by_cases d : b = 0
    · refine ⟨0, w1, by omega, fun _ => ⟨d, z1 c⟩, ?_, r1, f1⟩
      rw [if_neg (by rw [c]; exact fun q => q rfl), if_pos (by rw [d]; rfl), m_X0_findNeeds_j74, nI_add]
    · refine ⟨1, w1, by omega, fun z => by omega, ?_, r1, f1⟩
      rw [if_neg (by rw [c]; exact fun q => q rfl), if_neg (by rw [z_eq0 (by omega)]; exact d), m_X0_findNeeds_j69, m_X0_findNeeds_j74, nI_add]
  · refine ⟨1, w1, by omega, fun z => by omega, ?_, r1, f1⟩
    rw [if_pos (by rw [z_eq0 (by omega)]; exact c), m_X0_findNeeds_j69, m_X0_findNeeds_j74, nI_add]
theorem e_fn_pass (h : RepC 0 T w) (I : InvB T) {N : Nat → Nat} (hN : RepN w N) (hb : ∀ o, N o ≤ 24) (x4 : Int32) (kx : Int32 → Wd → Option Wd) (n : Nat) : ∃ b w', b ≤ 1 ∧ (b = 0 → npass T N = N) ∧ m_X0_findNeeds_L50 x4 kx (n + 5) (nI 0) (nI 0) w = kx (nI b) w' ∧ RepN w' (npass T N) ∧ (∀ k, k ≠ 475 → w' k = w k) := by
  have hc := I.2.2.2.2
  obtain ⟨b1, w1, l1, z1, e1, r1, f1⟩ := e_fn_step h I hN hb (o := 0) (by omega) x4 kx (n + 4) 0 (by omega)
  have hb1 := npO_le hc (o := 0) (by omega) hb
  obtain ⟨b2, w2, l2, z2, e2, r2, f2⟩ := e_fn_step (rc_475 h f1) I r1 hb1 (o := 1) (by omega) x4 kx (n + 3) b1 l1
  have hb2 := npO_le hc (o := 1) (by omega) hb1
  obtain ⟨b3, w3, l3, z3, e3, r3, f3⟩ := e_fn_step (rc_475 (rc_475 h f1) f2) I r2 hb2 (o := 2) (by omega) x4 kx (n + 2) b2 l2
  have hb3 := npO_le hc (o := 2) (by omega) hb2
  obtain ⟨b4, w4, l4, z4, e4, r4, f4⟩ := e_fn_step (rc_475 (rc_475 (rc_475 h f1) f2) f3) I r3 hb3 (o := 3) (by omega) x4 kx (n + 1) b3 l3
  refine ⟨b4, w4, l4, fun z => ?_, ?_, r4, fun k hk => by rw [f4 k hk, f3 k hk, f2 k hk, f1 k hk]⟩
  · obtain ⟨y3, q4⟩ := z4 z
    obtain ⟨y2, q3⟩ := z3 y3
    obtain ⟨y1, q2⟩ := z2 y2
    obtain ⟨y0, q1⟩ := z1 y1
    unfold npass
    rw [q4, q3, q2, q1]
  · rw [e1, e2, e3, e4, m_X0_findNeeds_L50, if_pos (by decide)]
theorem e_fn_L34 (I : InvB T) : ∀ (d n c b : Nat) (N : Nat → Nat) (w : Wd), c + d = 97 → d < n → b ≤ 1 → (b = 0 → npass T N = N) → RepC 0 T w → RepN w N → (∀ o, N o ≤ 24) → ∃ w', m_X0_findNeeds_L34 n (nI b) (nI c) w = some w' ∧ RepN w' (nit T d N) ∧ ∀ k, k ≠ 475 → w' k = w k := by
  have hc := I.2.2.2.2
  intro d
  induction d with
  | zero =>
    intro n c b N w hc hn hb1 hfix h hN hb
    obtain ⟨n, rfl⟩ : ∃ m, n = m + 1 := ⟨n - 1, by omega⟩
    exact ⟨w, by rw [m_X0_findNeeds_L34, if_pos (by rw [z_lt (by omega) (by omega)]; omega)], hN, fun _ _ => rfl⟩
  | succ d ih =>
    intro n c b N w hc' hn hb1 hfix h hN hb
    obtain ⟨n, rfl⟩ : ∃ m, n = m + 1 := ⟨n - 1, by omega⟩
    rw [m_X0_findNeeds_L34, if_neg (by rw [z_lt (by omega) (by omega)]; omega)]
    by_cases cb : b = 0
    · subst cb
      refine ⟨w, if_pos rfl, ?_, fun _ _ => rfl⟩
      rw [nit_fix T (hfix rfl)]
      exact hN
    · obtain ⟨M, hM, -⟩ := FU5
      rw [if_neg (by rw [z_eq0 (by omega)]; exact cb), hM]
      obtain ⟨b', w1, q1, q2, q3, q4, q5⟩ := e_fn_pass h I hN hb (nI c) (fun x3_1 w2 => m_X0_findNeeds_L34 n x3_1 (nI c + nI 1) w2) M
      rw [q3]
      obtain ⟨w', r1, r2, r3⟩ := ih n (c + 1) b' (npass T N) w1 (by omega) (by omega) q1 (fun z => by rw [q2 z]; exact q2 z) (rc_475 h q5) q4 (npass_le hc hb)
      exact ⟨w', by rw [nI_add]; exact r1, r2, fun k hk => (r3 k hk).trans (q5 k hk)⟩
theorem e_findNeeds (h : RepC 0 T w) (I : InvB T) {o v : Nat} (ho : o < 4) (hv : v ≤ 24) : ∃ w', m_X0_findNeeds (nI o) (nI v) w = some w' ∧ RepN w' (nds T o v) ∧ ∀ k, k ≠ 475 → w' k = w k := by
  have st : ∀ (u : Wd) (kx : Wd → Option Wd) (e n : Nat), e < 4 → m_X0_findNeeds_L2 (nI o) (nI v) kx (n + 1) (nI e) u = m_X0_findNeeds_L2 (nI o) (nI v) kx n (nI (e + 1)) (wset u 475 e (nI (nini o v e))) := by
    intro u kx e n he
    rw [m_X0_findNeeds_L2, if_neg (by rw [z_le (by omega) (by omega)]; omega)]
    unfold nini
    by_cases c : e = o
    · rw [if_neg (by rw [c]; exact fun q => q rfl), m_X0_findNeeds_j22, if_pos (by rw [z_ib (by omega)]; exact he), nI_clamp (by omega), lt_eq, if_pos c, nI_add]
    · rw [if_pos (by rw [z_eq (by omega) (by omega)]; exact c), m_X0_findNeeds_j22, if_pos (by rw [z_ib (by omega)]; exact he), nI_clamp (by omega), lt_eq, if_neg c, nI_add]
  obtain ⟨n, hN, hb⟩ := FU5
  obtain ⟨w1, e1⟩ : ∃ w1, w1 = wset w 475 0 (nI (nini o v 0)) := ⟨_, rfl⟩
  have f1 : ∀ k, k ≠ 475 → w1 k = w k := fun k hk => by rw [e1, wset_ne hk]
  obtain ⟨w2, e2⟩ : ∃ w2, w2 = wset w1 475 1 (nI (nini o v 1)) := ⟨_, rfl⟩
  have f2 : ∀ k, k ≠ 475 → w2 k = w k := fun k hk => by rw [e2, wset_ne hk, f1 k hk]
  obtain ⟨w3, e3⟩ : ∃ w3, w3 = wset w2 475 2 (nI (nini o v 2)) := ⟨_, rfl⟩
  have f3 : ∀ k, k ≠ 475 → w3 k = w k := fun k hk => by rw [e3, wset_ne hk, f2 k hk]
  obtain ⟨w4, e4⟩ : ∃ w4, w4 = wset w3 475 3 (nI (nini o v 3)) := ⟨_, rfl⟩
  have f4 : ∀ k, k ≠ 475 → w4 k = w k := fun k hk => by rw [e4, wset_ne hk, f3 k hk]
  have r4 : RepN w4 (nini o v) := by
    intro o ho
    rw [e4, wset_same]
    rcases (show o = 0 ∨ o = 1 ∨ o = 2 ∨ o = 3 by omega) with rfl | rfl | rfl | rfl
    · rw [upd_n (by omega), e3, wset_same, upd_n (by omega), e2, wset_same, upd_n (by omega), e1, wset_same, upd_s]
    · rw [upd_n (by omega), e3, wset_same, upd_n (by omega), e2, wset_same, upd_s]
    · rw [upd_n (by omega), e3, wset_same, upd_s]
    · rw [upd_s]
  obtain ⟨w', q1, q2, q3⟩ := e_fn_L34 I 97 (n + 5) 0 1 (nini o v) w4 (by omega) (by omega) (by omega) (fun z => by omega) (rc_475 h f4) r4 (fun e => by unfold nini; split <;> omega)
  refine ⟨w', ?_, q2, fun k hk => (q3 k hk).trans (f4 k hk)⟩
  rw [m_X0_findNeeds, hN, st _ _ 0 (n + 4) (by omega), ← e1, st _ _ 1 (n + 3) (by omega), ← e2, st _ _ 2 (n + 2) (by omega), ← e3, st _ _ 3 (n + 1) (by omega), ← e4, m_X0_findNeeds_L2, if_pos (by decide)]
  exact q1
theorem e_cm_L21 (h : RepC 0 T w) {N : Nat → Nat} (hN : RepN w N) (hb : ∀ o, N o ≤ 24) {p o : Nat} (hp : p < 8) (ho : o < 4) (kx : Int32 → Wd → Option (Int32 × Wd)) (a0 : Nat) : ∀ (d n v : Nat), v + d = N o → d < n → m_X0_countMissing_L21 (nI p) (nI o) kx n (nI (a0 + fb_ct (fun i => !tt_kn T (4 * p + o) (i + 1)) v)) (nI (v + 1)) w = kx (nI (a0 + nmiss T p N o)) w := by
  have hbo := hb o
  intro d
  induction d with
  | zero =>
    intro n v hv hn
    obtain ⟨n, rfl⟩ : ∃ m, n = m + 1 := ⟨n - 1, by omega⟩
    by_cases g : 24 < v + 1
    · rw [m_X0_countMissing_L21, if_pos (by rw [z_lt (by omega) (by omega)]; omega), nmiss, ← hv, Nat.add_zero]
    · rw [m_X0_countMissing_L21, if_neg (by rw [z_lt (by omega) (by omega)]; omega), if_pos (by rw [z_ib (by omega)]; exact ho), nI_clamp (by omega), hN o ho, if_pos (by rw [z_lt (by omega) (by omega)]; omega), nmiss, ← hv, Nat.add_zero]
  | succ d ih =>
    intro n v hv hn
    obtain ⟨n, rfl⟩ : ∃ m, n = m + 1 := ⟨n - 1, by omega⟩
    rw [m_X0_countMissing_L21, if_neg (by rw [z_lt (by omega) (by omega)]; omega), if_pos (by rw [z_ib (by omega)]; exact ho), nI_clamp (by omega), hN o ho, if_neg (by rw [z_lt (by omega) (by omega)]; omega), e_knows h hp ho (by omega) (by omega), b_b]
    have e := ih n (v + 1) (by omega) (by omega)
    rw [fb_ct] at e
    by_cases c : tt_kn T (4 * p + o) (v + 1) = true
    · rw [if_neg (by rw [c]; decide), Nat.add_zero] at e
      rw [if_pos c, if_pos (by decide), m_X0_countMissing_j58, nI_add]
      exact e
    · rw [if_pos (by simpa using c)] at e
      rw [if_neg c, if_neg (by decide), m_X0_countMissing_j58, nI_add, nI_add]
      exact e
theorem e_countMissing (h : RepC 0 T w) (I : InvB T) {p o v : Nat} (hp : p < 8) (ho : o < 4) (hv : v ≤ 24) : ∃ w', m_X0_countMissing (nI p) (nI o) (nI v) w = some (nI (missC T p o v), w') ∧ ∀ k, k ≠ 475 → w' k = w k := by
  obtain ⟨w1, a1, a2, a3⟩ := e_findNeeds h I ho hv
  have h1 := rc_475 h a3
  have hb := nit_le I.2.2.2.2 97 (nini o v) (fun e => by unfold nini; split <;> omega)
  have hb' : ∀ j, nds T o v j ≤ 24 := hb
  refine ⟨w1, ?_, a3⟩
  have st : ∀ (e n a : Nat), e < 4 → m_X0_countMissing_L12 (nI p) (n + 1) (nI a) (nI e) w1 = m_X0_countMissing_L12 (nI p) n (nI (a + nmiss T p (nds T o v) e)) (nI (e + 1)) w1 := by
    intro e n a he
    have hF := FUb
    have hbe := hb' e
    rw [m_X0_countMissing_L12, if_neg (by rw [z_le (by omega) (by omega)]; omega)]
    have k := e_cm_L21 h1 a2 hb' hp he (fun x4_1 w2 => m_X0_countMissing_j64 (nI p) x4_1 (nI e) w2 (m_X0_countMissing_L12 (nI p) n)) a (nds T o v e) FU 0 (by omega) (by omega)
    rw [show a + fb_ct (fun i => !tt_kn T (4 * p + e) (i + 1)) 0 = a from rfl, show (0 + 1) = 1 from rfl] at k
    rw [k, m_X0_countMissing_j64, nI_add]
  obtain ⟨n, hN, -⟩ := FU5
  rw [m_X0_countMissing, a1, b_b, hN, st 0 (n + 4) 0 (by omega), st 1 (n + 3) _ (by omega), st 2 (n + 2) _ (by omega), st 3 (n + 1) _ (by omega), m_X0_countMissing_L12, if_pos (by decide), Nat.zero_add]
  rfl
end MISSING
