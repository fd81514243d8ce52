/-! ===== the bytecode does what the model says (printed by wip/whole/tools/gen.py) ===== -/
section WALK15
variable {p : Program} {l : Launch} {e : Env} {s : State} {m : MethodId} {args : Array Value} {below : List Frame} {meth : Method} {c : Code} {D : va_G} {cI cL cS : ClassId} {ad : Nat → Nat}
abbrev rmX8_in : Room := { frames := 0, cells := 0, slots := 0, locals := 0 }
set_option maxRecDepth 100000 in
set_option maxHeartbeats 4000000 in
theorem c_X8_in (hI : Inj 8 ad) {x0 : Int32} {x1 : Int32} {x2 : Int32} {w : Wd} {out : Int32} (hf : m_X8_in x0 x1 x2 = some out) : Met l yX8_in wsX8_in rmX8_in (va_Pc [.int x0, .int x1, .int x2] (PW D (tR cI) 8 ad (cellR cI ad) w)) (QWi D 8 ad (cellR cI ad) out w) 0 0 (AW 8 ad) := by
  refine mk_met (maxL := 3) (ret := (some .boolean)) RX8 hI (by decide) rfl rfl (Nat.le_of_ble_eq_true rfl) rfl rfl (fun p e s m args below meth c X Y => ?_)
  unfold m_X8_in at hf
  refine j_iload_n X 0 dX8_in_0 rfl rfl ?_
  refine j_iload_n X 1 dX8_in_1 rfl rfl ?_
  refine j_icmp_lt (tgt := 14) X dX8_in_2 (by decide) (fun c => ?_) (fun c => ?_)
  · replace hf := f_t c hf
    refine j_iconst X (v := (nI 0)) (by decide) dX8_in_14 ?_
    exact j_bret X Y (Eq.trans (by decide : (nI 0) &&& 1 = (nI 0)) (f_s hf)) rfl dX8_in_15
  replace hf := f_f c hf
  refine j_iload_n X 0 dX8_in_5 rfl rfl ?_
  refine j_iload_n X 2 dX8_in_6 rfl rfl ?_
  refine j_icmp_gt (tgt := 14) X dX8_in_7 (by decide) (fun c => ?_) (fun c => ?_)
  · replace hf := f_t c hf
    refine j_iconst X (v := (nI 0)) (by decide) dX8_in_14 ?_
    exact j_bret X Y (Eq.trans (by decide : (nI 0) &&& 1 = (nI 0)) (f_s hf)) rfl dX8_in_15
  replace hf := f_f c hf
  refine j_iconst X (v := (nI 1)) (by decide) dX8_in_10 ?_
  refine j_goto (tgt := 15) X dX8_in_11 (by decide) ?_
  exact j_bret X Y (Eq.trans (by decide : (nI 1) &&& 1 = (nI 1)) (f_s hf)) rfl dX8_in_15
abbrev rmX8_hold : Room := { frames := 0, cells := 0, slots := 0, locals := 0 }
theorem inX8_hold_X8 : ∀ w ∈ wsX80, w ∈ wsX8_hold := fun _ h => List.mem_cons_of_mem _ (List.mem_append_right _ h)
set_option maxRecDepth 100000 in
set_option maxHeartbeats 4000000 in
theorem t_X8_hold_L2 (X : CX p rmX8_hold s m args c cX8_hold 2 RX8 wsX8_hold D (tR cI) 8 ad) (Y : RX meth none) {out : Wd} : ∀ (n : Nat) (x1 : Int32) (w : Wd), m_X8_hold_L2 n x1 w = some out → WJ p l e rmX8_hold s m args below meth c (MQ below (QWv D 8 ad (cellR cI ad) out) args s 0 0 (AW 8 ad)) 2 D 8 ad (cellR cI ad) w 2 [(0, .ref (ad 0)), (1, .int x1)] [] := by
  intro n
  induction n with
  | zero => intro x1 w hf; exact f_n hf
  | succ n ih =>
    intro x1 w hf
    rw [m_X8_hold_L2] at hf
    refine j_iload_n X 1 dX8_hold_2 rfl rfl ?_
    refine j_sipush X (v := (nI 1423)) (by decide) dX8_hold_3 ?_
    refine j_icmp_ge (tgt := 27) X dX8_hold_6 (by decide) (fun c => ?_) (fun c => ?_)
    · replace hf := f_t c hf
      exact j_vret X Y (f_s hf) dX8_hold_27
    replace hf := f_f c hf
    refine j_aload_n X 0 dX8_hold_9 rfl rfl ?_
    refine j_get (ref := "ProxyVersionsModel") (index := 16) (v := .ref (ad 3)) X oMo inX8_hold_X8 rfl 2 (by decide) (List.mem_of_getElem? (i := 1) rfl) rfl rfl dX8_hold_10 ?_
    refine j_iload_n X 1 dX8_hold_13 rfl rfl ?_
    refine j_aload_n X 0 dX8_hold_14 rfl rfl ?_
    refine j_get (ref := "ProxyVersionsModel") (index := 7) (v := .ref (ad 1)) X oMo inX8_hold_X8 rfl 0 (by decide) (List.mem_of_getElem? (i := 2) rfl) rfl rfl dX8_hold_15 ?_
    refine j_iload_n X 1 dX8_hold_18 rfl rfl ?_
    obtain ⟨hi1, hf⟩ := f_c hf
    refine j_iald X 0 rfl r1 hi1 dX8_hold_19 ?_
    obtain ⟨hi2, hf⟩ := f_c hf
    obtain ⟨w3, ew3, hf⟩ := f_lt hf
    refine j_iast X 0 rfl r3 hi2 dX8_hold_20 ew3 ?_
    refine j_iinc (v := (x1 + (nI 1))) (lv' := [(0, .ref (ad 0)), (1, .int (x1 + (nI 1)))]) X 1 dX8_hold_21 rfl rfl (by decide) rfl ?_
    refine j_goto (tgt := 2) X dX8_hold_24 (by decide) ?_
    exact ih _ _ hf
set_option maxRecDepth 100000 in
set_option maxHeartbeats 4000000 in
theorem c_X8_hold (hI : Inj 8 ad) {w : Wd} {out : Wd} (hf : m_X8_hold w = some out) : Met l yX8_hold wsX8_hold rmX8_hold (va_Pc [.ref (ad 0)] (PW D (tR cI) 8 ad (cellR cI ad) w)) (QWv D 8 ad (cellR cI ad) out) 0 0 (AW 8 ad) := by
  refine mk_met (maxL := 2) (ret := none) RX8 hI (by decide) rfl rfl (Nat.le_of_ble_eq_true rfl) rfl rfl (fun p e s m args below meth c X Y => ?_)
  unfold m_X8_hold at hf
  refine j_iconst X (v := (nI 0)) (by decide) dX8_hold_0 ?_
  refine j_istore_n (lv' := [(0, .ref (ad 0)), (1, .int (nI 0))]) X dX8_hold_1 rfl (by decide) rfl ?_
  refine t_X8_hold_L2 X Y _ _ _ hf
abbrev rmX8_ends : Room := { frames := 0, cells := 0, slots := 0, locals := 0 }
theorem inX8_ends_X8 : ∀ w ∈ wsX80, w ∈ wsX8_ends := fun _ h => List.mem_cons_of_mem _ (List.mem_append_right _ h)
set_option maxRecDepth 100000 in
set_option maxHeartbeats 4000000 in
theorem t_X8_ends_L52 (X : CX p rmX8_ends s m args c cX8_ends 3 RX8 wsX8_ends D (tR cI) 8 ad) (Y : RX meth (some .int)) {x1 : Int32} {kx86 : Wd → Option (Int32 × Wd)} {out : Int32 × Wd} (hk_kx86 : ∀  (v : Wd), kx86 v = some out → WJ p l e rmX8_ends s m args below meth c (MQ below (QWi D 8 ad (cellR cI ad) out.1 out.2) args s 0 0 (AW 8 ad)) 3 D 8 ad (cellR cI ad) v 86 [(0, .ref (ad 0)), (1, .int x1)] []) : ∀ (n : Nat) (x2 : Int32) (w : Wd), m_X8_ends_L52 x1 kx86 n x2 w = some out → WJ p l e rmX8_ends s m args below meth c (MQ below (QWi D 8 ad (cellR cI ad) out.1 out.2) args s 0 0 (AW 8 ad)) 3 D 8 ad (cellR cI ad) w 52 [(0, .ref (ad 0)), (1, .int x1), (2, .int x2)] [] := by
  intro n
  induction n with
  | zero => intro x2 w hf; exact f_n hf
  | succ n ih =>
    intro x2 w hf
    rw [m_X8_ends_L52] at hf
    refine j_iload_n X 2 dX8_ends_52 rfl rfl ?_
    refine j_sipush X (v := (nI 1423)) (by decide) dX8_ends_53 ?_
    refine j_icmp_ge (tgt := 86) X dX8_ends_56 (by decide) (fun c => ?_) (fun c => ?_)
    · replace hf := f_t c hf
      refine j_sub [0, 1] rfl ?_
      exact hk_kx86 _ hf
    replace hf := f_f c hf
    refine j_aload_n X 0 dX8_ends_59 rfl rfl ?_
    refine j_get (ref := "ProxyVersionsModel") (index := 13) (v := .ref (ad 2)) X oMo inX8_ends_X8 rfl 1 (by decide) (List.mem_of_getElem? (i := 2) rfl) rfl rfl dX8_ends_60 ?_
    refine j_sipush X (v := (nI 1423)) (by decide) dX8_ends_63 ?_
    refine j_aload_n X 0 dX8_ends_66 rfl rfl ?_
    refine j_get (ref := "ProxyVersionsModel") (index := 31) (v := .int (w 0 3)) X oMo inX8_ends_X8 rfl 3 (by decide) (List.mem_of_getElem? (i := 1) rfl) rfl rfl dX8_ends_67 ?_
    refine j_imul X dX8_ends_70 ?_
    refine j_iload_n X 2 dX8_ends_71 rfl rfl ?_
    refine j_iadd X dX8_ends_72 ?_
    refine j_aload_n X 0 dX8_ends_73 rfl rfl ?_
    refine j_get (ref := "ProxyVersionsModel") (index := 16) (v := .ref (ad 3)) X oMo inX8_ends_X8 rfl 2 (by decide) (List.mem_of_getElem? (i := 3) rfl) rfl rfl dX8_ends_74 ?_
    refine j_iload_n X 2 dX8_ends_77 rfl rfl ?_
    obtain ⟨hi1, hf⟩ := f_c hf
    refine j_iald X 0 rfl r3 hi1 dX8_ends_78 ?_
    obtain ⟨hi2, hf⟩ := f_c hf
    obtain ⟨w3, ew3, hf⟩ := f_lt hf
    refine j_iast X 0 rfl r2 hi2 dX8_ends_79 ew3 ?_
    refine j_iinc (v := (x2 + (nI 1))) (lv' := [(0, .ref (ad 0)), (1, .int x1), (2, .int (x2 + (nI 1)))]) X 2 dX8_ends_80 rfl rfl (by decide) rfl ?_
    refine j_goto (tgt := 52) X dX8_ends_83 (by decide) ?_
    exact ih _ _ hf
set_option maxRecDepth 100000 in
set_option maxHeartbeats 4000000 in
theorem t_X8_ends_j50 (X : CX p rmX8_ends s m args c cX8_ends 3 RX8 wsX8_ends D (tR cI) 8 ad) (Y : RX meth (some .int)) {x1 : Int32} {w : Wd} {out : Int32 × Wd} (hf : m_X8_ends_j50 x1 w = some out) : WJ p l e rmX8_ends s m args below meth c (MQ below (QWi D 8 ad (cellR cI ad) out.1 out.2) args s 0 0 (AW 8 ad)) 3 D 8 ad (cellR cI ad) w 50 [(0, .ref (ad 0)), (1, .int x1)] [] := by
  unfold m_X8_ends_j50 at hf
  refine j_iconst X (v := (nI 0)) (by decide) dX8_ends_50 ?_
  refine j_istore_n (lv' := [(0, .ref (ad 0)), (1, .int x1), (2, .int (nI 0))]) X dX8_ends_51 rfl (by decide) rfl ?_
  refine t_X8_ends_L52 X Y ?_ _ _ _ hf
  intro w1 hf
  refine j_aload_n X 0 dX8_ends_86 rfl rfl ?_
  refine j_dup X rfl dX8_ends_87 ?_
  refine j_get (ref := "ProxyVersionsModel") (index := 31) (v := .int (w1 0 3)) X oMo inX8_ends_X8 rfl 3 (by decide) (List.mem_of_getElem? (i := 1) rfl) rfl rfl dX8_ends_88 ?_
  refine j_iconst X (v := (nI 1)) (by decide) dX8_ends_91 ?_
  refine j_iadd X dX8_ends_92 ?_
  obtain ⟨w2, ew2, hf⟩ := f_lt hf
  refine j_put (ref := "ProxyVersionsModel") (index := 31)  X oMo inX8_ends_X8 tyX8_ok nmX8 rfl 3 (by decide) (List.mem_of_getElem? (i := 1) rfl) rfl rfl rfl (Nat.le_of_ble_eq_true rfl) rfl dX8_ends_93 ew2 ?_
  refine j_iload_n X 1 dX8_ends_96 rfl rfl ?_
  exact j_iret X Y (f_p1 hf) (f_p2 hf) dX8_ends_97
set_option maxRecDepth 100000 in
set_option maxHeartbeats 4000000 in
theorem t_X8_ends_L11 (X : CX p rmX8_ends s m args c cX8_ends 3 RX8 wsX8_ends D (tR cI) 8 ad) (Y : RX meth (some .int)) {x1 : Int32} {kx40 : Wd → Option (Int32 × Wd)} {out : Int32 × Wd} (hk_kx40 : ∀  (v : Wd), kx40 v = some out → WJ p l e rmX8_ends s m args below meth c (MQ below (QWi D 8 ad (cellR cI ad) out.1 out.2) args s 0 0 (AW 8 ad)) 3 D 8 ad (cellR cI ad) v 40 [(0, .ref (ad 0)), (1, .int x1)] []) : ∀ (n : Nat) (x2 : Int32) (w : Wd), m_X8_ends_L11 x1 kx40 n x2 w = some out → WJ p l e rmX8_ends s m args below meth c (MQ below (QWi D 8 ad (cellR cI ad) out.1 out.2) args s 0 0 (AW 8 ad)) 3 D 8 ad (cellR cI ad) w 11 [(0, .ref (ad 0)), (1, .int x1), (2, .int x2)] [] := by
  intro n
  induction n with
  | zero => intro x2 w hf; exact f_n hf
  | succ n ih =>
    intro x2 w hf
    rw [m_X8_ends_L11] at hf
    refine j_iload_n X 2 dX8_ends_11 rfl rfl ?_
    refine j_sipush X (v := (nI 7115)) (by decide) dX8_ends_12 ?_
    refine j_icmp_ge (tgt := 40) X dX8_ends_15 (by decide) (fun c => ?_) (fun c => ?_)
    · replace hf := f_t c hf
      refine j_sub [0, 1] rfl ?_
      exact hk_kx40 _ hf
    replace hf := f_f c hf
    refine j_aload_n X 0 dX8_ends_18 rfl rfl ?_
    refine j_get (ref := "ProxyVersionsModel") (index := 13) (v := .ref (ad 2)) X oMo inX8_ends_X8 rfl 1 (by decide) (List.mem_of_getElem? (i := 2) rfl) rfl rfl dX8_ends_19 ?_
    refine j_iload_n X 2 dX8_ends_22 rfl rfl ?_
    refine j_aload_n X 0 dX8_ends_23 rfl rfl ?_
    refine j_get (ref := "ProxyVersionsModel") (index := 13) (v := .ref (ad 2)) X oMo inX8_ends_X8 rfl 1 (by decide) (List.mem_of_getElem? (i := 2) rfl) rfl rfl dX8_ends_24 ?_
    refine j_iload_n X 2 dX8_ends_27 rfl rfl ?_
    refine j_sipush X (v := (nI 1423)) (by decide) dX8_ends_28 ?_
    refine j_iadd X dX8_ends_31 ?_
    obtain ⟨hi1, hf⟩ := f_c hf
    refine j_iald X 0 rfl r2 hi1 dX8_ends_32 ?_
    obtain ⟨hi2, hf⟩ := f_c hf
    obtain ⟨w3, ew3, hf⟩ := f_lt hf
    refine j_iast X 0 rfl r2 hi2 dX8_ends_33 ew3 ?_
    refine j_iinc (v := (x2 + (nI 1))) (lv' := [(0, .ref (ad 0)), (1, .int x1), (2, .int (x2 + (nI 1)))]) X 2 dX8_ends_34 rfl rfl (by decide) rfl ?_
    refine j_goto (tgt := 11) X dX8_ends_37 (by decide) ?_
    exact ih _ _ hf
set_option maxRecDepth 100000 in
set_option maxHeartbeats 4000000 in
theorem c_X8_ends (hI : Inj 8 ad) {x1 : Int32} {w : Wd} {out : Int32 × Wd} (hf : m_X8_ends x1 w = some out) : Met l yX8_ends wsX8_ends rmX8_ends (va_Pc [.ref (ad 0), .int x1] (PW D (tR cI) 8 ad (cellR cI ad) w)) (QWi D 8 ad (cellR cI ad) out.1 out.2) 0 0 (AW 8 ad) := by
  refine mk_met (maxL := 3) (ret := (some .int)) RX8 hI (by decide) rfl rfl (Nat.le_of_ble_eq_true rfl) rfl rfl (fun p e s m args below meth c X Y => ?_)
  unfold m_X8_ends at hf
  refine j_aload_n X 0 dX8_ends_0 rfl rfl ?_
  refine j_get (ref := "ProxyVersionsModel") (index := 31) (v := .int (w 0 3)) X oMo inX8_ends_X8 rfl 3 (by decide) (List.mem_of_getElem? (i := 1) rfl) rfl rfl dX8_ends_1 ?_
  refine j_bipush X (v := (nI 6)) (by decide) dX8_ends_4 ?_
  refine j_icmp_ne (tgt := 50) X dX8_ends_6 (by decide) (fun c => ?_) (fun c => ?_)
  · replace hf := f_t c hf
    exact t_X8_ends_j50 X Y hf
  replace hf := f_fn c hf
  refine j_iconst X (v := (nI 0)) (by decide) dX8_ends_9 ?_
  refine j_istore_n (lv' := [(0, .ref (ad 0)), (1, .int x1), (2, .int (nI 0))]) X dX8_ends_10 rfl (by decide) rfl ?_
  refine t_X8_ends_L11 X Y ?_ _ _ _ hf
  intro w1 hf
  refine j_aload_n X 0 dX8_ends_40 rfl rfl ?_
  refine j_dup X rfl dX8_ends_41 ?_
  refine j_get (ref := "ProxyVersionsModel") (index := 31) (v := .int (w1 0 3)) X oMo inX8_ends_X8 rfl 3 (by decide) (List.mem_of_getElem? (i := 1) rfl) rfl rfl dX8_ends_42 ?_
  refine j_iconst X (v := (nI 1)) (by decide) dX8_ends_45 ?_
  refine j_isub X dX8_ends_46 ?_
  obtain ⟨w2, ew2, hf⟩ := f_lt hf
  refine j_put (ref := "ProxyVersionsModel") (index := 31)  X oMo inX8_ends_X8 tyX8_ok nmX8 rfl 3 (by decide) (List.mem_of_getElem? (i := 1) rfl) rfl rfl rfl (Nat.le_of_ble_eq_true rfl) rfl dX8_ends_47 ew2 ?_
  exact t_X8_ends_j50 X Y hf
abbrev rmX8_closes : Room := { frames := 1, cells := 0, slots := 0, locals := 22 }
set_option maxRecDepth 100000 in
set_option maxHeartbeats 4000000 in
theorem c_X8_closes (hI : Inj 8 ad) {x1 : Int32} {w : Wd} {out : Int32 × Wd} (hf : m_X8_closes x1 w = some out) : Met l yX8_closes wsX8_closes rmX8_closes (va_Pc [.ref (ad 0), .int x1] (PW D (tR cI) 8 ad (cellR cI ad) w)) (QWi D 8 ad (cellR cI ad) out.1 out.2) 0 0 (AW 8 ad) := by
  refine mk_met (maxL := 2) (ret := (some .int)) RX8 hI (by decide) rfl rfl (Nat.le_of_ble_eq_true rfl) rfl rfl (fun p e s m args below meth c X Y => ?_)
  unfold m_X8_closes at hf
  refine j_iload_n X 1 dX8_closes_0 rfl rfl ?_
  refine j_if_ge (tgt := 8) X dX8_closes_1 (by decide) (fun c => ?_) (fun c => ?_)
  · replace hf := f_t c hf
    refine j_aload_n X 0 dX8_closes_8 rfl rfl ?_
    refine j_iload_n X 1 dX8_closes_9 rfl rfl ?_
    obtain ⟨o1, ho1, hf⟩ := f_bd hf
    refine j_callVi X oMo rfl rfl [.int x1] (c_X8_ends X.2.2.2.2.2.2.2 ho1) (cwV 1 X.2.2.2.2.1 gX8_closes_X8_ends rfl rfl rfl (by decide +kernel) ⟨Nat.le_of_ble_eq_true rfl, Nat.le_of_ble_eq_true rfl⟩) rfl rfl (Nat.le_of_ble_eq_true rfl) dX8_closes_10 ?_
    exact j_iret X Y (f_p1 hf) (f_p2 hf) dX8_closes_13
  replace hf := f_f c hf
  refine j_iload_n X 1 dX8_closes_4 rfl rfl ?_
  refine j_goto (tgt := 13) X dX8_closes_5 (by decide) ?_
  exact j_iret X Y (f_p1 hf) (f_p2 hf) dX8_closes_13
abbrev rmX8_isProxy : Room := { frames := 1, cells := 0, slots := 0, locals := 22 }
theorem inX8_isProxy_X8 : ∀ w ∈ wsX80, w ∈ wsX8_isProxy := fun _ h => List.mem_cons_of_mem _ (List.mem_append_right _ h)
set_option maxRecDepth 100000 in
set_option maxHeartbeats 4000000 in
theorem c_X8_isProxy (hI : Inj 8 ad) {x1 : Int32} {w : Wd} {out : Int32} (hf : m_X8_isProxy x1 w = some out) : Met l yX8_isProxy wsX8_isProxy rmX8_isProxy (va_Pc [.ref (ad 0), .int x1] (PW D (tR cI) 8 ad (cellR cI ad) w)) (QWi D 8 ad (cellR cI ad) out w) 0 0 (AW 8 ad) := by
  refine mk_met (maxL := 2) (ret := (some .boolean)) RX8 hI (by decide) rfl rfl (Nat.le_of_ble_eq_true rfl) rfl rfl (fun p e s m args below meth c X Y => ?_)
  unfold m_X8_isProxy at hf
  refine j_iload_n X 1 dX8_isProxy_0 rfl rfl ?_
  refine j_iconst X (v := (nI 0)) (by decide) dX8_isProxy_1 ?_
  refine j_aload_n X 0 dX8_isProxy_2 rfl rfl ?_
  refine j_get (ref := "ProxyVersionsModel") (index := 7) (v := .ref (ad 1)) X oMo inX8_isProxy_X8 rfl 0 (by decide) (List.mem_of_getElem? (i := 1) rfl) rfl rfl dX8_isProxy_3 ?_
  refine j_iconst X (v := (nI 0)) (by decide) dX8_isProxy_6 ?_
  obtain ⟨hi1, hf⟩ := f_c hf
  refine j_iald X 0 rfl r1 hi1 dX8_isProxy_7 ?_
  refine j_iconst X (v := (nI 1)) (by decide) dX8_isProxy_8 ?_
  refine j_isub X dX8_isProxy_9 ?_
  obtain ⟨o2, ho2, hf⟩ := f_bd hf
  refine j_callSi X [.int x1, .int (nI 0), .int ((w 1 (nI 0).toNatClampNeg) - (nI 1))] (c_X8_in X.2.2.2.2.2.2.2 ho2) (va_cwS 3 X.2.2.2.2.1 gX8_isProxy_X8_in rfl rfl rfl (by decide +kernel) ⟨Nat.le_of_ble_eq_true rfl, Nat.le_of_ble_eq_true rfl⟩) rfl rfl (Nat.le_of_ble_eq_true rfl) dX8_isProxy_10 ?_
  exact j_bret X Y (f_s hf) rfl dX8_isProxy_13
abbrev rmX8_isChild : Room := { frames := 1, cells := 0, slots := 0, locals := 22 }
theorem inX8_isChild_X8 : ∀ w ∈ wsX80, w ∈ wsX8_isChild := fun _ h => List.mem_cons_of_mem _ (List.mem_append_right _ h)
set_option maxRecDepth 100000 in
set_option maxHeartbeats 4000000 in
theorem c_X8_isChild (hI : Inj 8 ad) {x1 : Int32} {w : Wd} {out : Int32} (hf : m_X8_isChild x1 w = some out) : Met l yX8_isChild wsX8_isChild rmX8_isChild (va_Pc [.ref (ad 0), .int x1] (PW D (tR cI) 8 ad (cellR cI ad) w)) (QWi D 8 ad (cellR cI ad) out w) 0 0 (AW 8 ad) := by
  refine mk_met (maxL := 2) (ret := (some .boolean)) RX8 hI (by decide) rfl rfl (Nat.le_of_ble_eq_true rfl) rfl rfl (fun p e s m args below meth c X Y => ?_)
  unfold m_X8_isChild at hf
  refine j_iload_n X 1 dX8_isChild_0 rfl rfl ?_
  refine j_iconst X (v := (nI 1)) (by decide) dX8_isChild_1 ?_
  refine j_aload_n X 0 dX8_isChild_2 rfl rfl ?_
  refine j_get (ref := "ProxyVersionsModel") (index := 7) (v := .ref (ad 1)) X oMo inX8_isChild_X8 rfl 0 (by decide) (List.mem_of_getElem? (i := 1) rfl) rfl rfl dX8_isChild_3 ?_
  refine j_iconst X (v := (nI 0)) (by decide) dX8_isChild_6 ?_
  obtain ⟨hi1, hf⟩ := f_c hf
  refine j_iald X 0 rfl r1 hi1 dX8_isChild_7 ?_
  refine j_iconst X (v := (nI 1)) (by decide) dX8_isChild_8 ?_
  refine j_isub X dX8_isChild_9 ?_
  obtain ⟨o2, ho2, hf⟩ := f_bd hf
  refine j_callSi X [.int x1, .int (nI 1), .int ((w 1 (nI 0).toNatClampNeg) - (nI 1))] (c_X8_in X.2.2.2.2.2.2.2 ho2) (va_cwS 3 X.2.2.2.2.1 gX8_isChild_X8_in rfl rfl rfl (by decide +kernel) ⟨Nat.le_of_ble_eq_true rfl, Nat.le_of_ble_eq_true rfl⟩) rfl rfl (Nat.le_of_ble_eq_true rfl) dX8_isChild_10 ?_
  exact j_bret X Y (f_s hf) rfl dX8_isChild_13
abbrev rmX8_isOrigin : Room := { frames := 1, cells := 0, slots := 0, locals := 22 }
set_option maxRecDepth 100000 in
set_option maxHeartbeats 4000000 in
theorem c_X8_isOrigin (hI : Inj 8 ad) {x0 : Int32} {w : Wd} {out : Int32} (hf : m_X8_isOrigin x0 = some out) : Met l yX8_isOrigin wsX8_isOrigin rmX8_isOrigin (va_Pc [.int x0] (PW D (tR cI) 8 ad (cellR cI ad) w)) (QWi D 8 ad (cellR cI ad) out w) 0 0 (AW 8 ad) := by
  refine mk_met (maxL := 1) (ret := (some .boolean)) RX8 hI (by decide) rfl rfl (Nat.le_of_ble_eq_true rfl) rfl rfl (fun p e s m args below meth c X Y => ?_)
  unfold m_X8_isOrigin at hf
  refine j_iload_n X 0 dX8_isOrigin_0 rfl rfl ?_
  refine j_iconst X (v := (nI 0)) (by decide) dX8_isOrigin_1 ?_
  refine j_iconst X (v := (nI 3)) (by decide) dX8_isOrigin_2 ?_
  obtain ⟨o1, ho1, hf⟩ := f_bd hf
  refine j_callSi X [.int x0, .int (nI 0), .int (nI 3)] (c_X8_in X.2.2.2.2.2.2.2 ho1) (va_cwS 3 X.2.2.2.2.1 gX8_isOrigin_X8_in rfl rfl rfl (by decide +kernel) ⟨Nat.le_of_ble_eq_true rfl, Nat.le_of_ble_eq_true rfl⟩) rfl rfl (Nat.le_of_ble_eq_true rfl) dX8_isOrigin_3 ?_
  exact j_bret X Y (f_s hf) rfl dX8_isOrigin_6
abbrev rmX8_isUpdate : Room := { frames := 2, cells := 0, slots := 0, locals := 42 }
theorem inX8_isUpdate_X8 : ∀ w ∈ wsX80, w ∈ wsX8_isUpdate := fun _ h => List.mem_cons_of_mem _ (List.mem_append_right _ h)
set_option maxRecDepth 100000 in
set_option maxHeartbeats 4000000 in
theorem c_X8_isUpdate (hI : Inj 8 ad) {x1 : Int32} {x2 : Int32} {w : Wd} {out : Int32} (hf : m_X8_isUpdate x1 x2 w = some out) : Met l yX8_isUpdate wsX8_isUpdate rmX8_isUpdate (va_Pc [.ref (ad 0), .int x1, .int x2] (PW D (tR cI) 8 ad (cellR cI ad) w)) (QWi D 8 ad (cellR cI ad) out w) 0 0 (AW 8 ad) := by
  refine mk_met (maxL := 3) (ret := (some .boolean)) RX8 hI (by decide) rfl rfl (Nat.le_of_ble_eq_true rfl) rfl rfl (fun p e s m args below meth c X Y => ?_)
  unfold m_X8_isUpdate at hf
  refine j_iload_n X 1 dX8_isUpdate_0 rfl rfl ?_
  obtain ⟨o1, ho1, hf⟩ := f_bd hf
  refine j_callSi X [.int x1] (c_X8_isOrigin X.2.2.2.2.2.2.2 ho1) (va_cwS 1 X.2.2.2.2.1 gX8_isUpdate_X8_isOrigin rfl rfl rfl (by decide +kernel) ⟨Nat.le_of_ble_eq_true rfl, Nat.le_of_ble_eq_true rfl⟩) rfl rfl (Nat.le_of_ble_eq_true rfl) dX8_isUpdate_1 ?_
  refine j_if_eq (tgt := 28) X dX8_isUpdate_4 (by decide) (fun c => ?_) (fun c => ?_)
  · replace hf := f_t c hf
    refine j_iconst X (v := (nI 0)) (by decide) dX8_isUpdate_28 ?_
    exact j_bret X Y (Eq.trans (by decide : (nI 0) &&& 1 = (nI 0)) (f_s hf)) rfl dX8_isUpdate_29
  replace hf := f_f c hf
  refine j_iload_n X 2 dX8_isUpdate_7 rfl rfl ?_
  refine j_iconst X (v := (nI 1)) (by decide) dX8_isUpdate_8 ?_
  refine j_aload_n X 0 dX8_isUpdate_9 rfl rfl ?_
  refine j_get (ref := "ProxyVersionsModel") (index := 7) (v := .ref (ad 1)) X oMo inX8_isUpdate_X8 rfl 0 (by decide) (List.mem_of_getElem? (i := 1) rfl) rfl rfl dX8_isUpdate_10 ?_
  refine j_bipush X (v := (nI 19)) (by decide) dX8_isUpdate_13 ?_
  refine j_iload_n X 1 dX8_isUpdate_15 rfl rfl ?_
  refine j_iadd X dX8_isUpdate_16 ?_
  obtain ⟨hi2, hf⟩ := f_c hf
  refine j_iald X 0 rfl r1 hi2 dX8_isUpdate_17 ?_
  obtain ⟨o3, ho3, hf⟩ := f_bd hf
  refine j_callSi X [.int x2, .int (nI 1), .int (w 1 ((nI 19) + x1).toNatClampNeg)] (c_X8_in X.2.2.2.2.2.2.2 ho3) (va_cwS 3 X.2.2.2.2.1 gX8_isUpdate_X8_in rfl rfl rfl (by decide +kernel) ⟨Nat.le_of_ble_eq_true rfl, Nat.le_of_ble_eq_true rfl⟩) rfl rfl (Nat.le_of_ble_eq_true rfl) dX8_isUpdate_18 ?_
  refine j_if_eq (tgt := 28) X dX8_isUpdate_21 (by decide) (fun c => ?_) (fun c => ?_)
  · replace hf := f_t c hf
    refine j_iconst X (v := (nI 0)) (by decide) dX8_isUpdate_28 ?_
    exact j_bret X Y (Eq.trans (by decide : (nI 0) &&& 1 = (nI 0)) (f_s hf)) rfl dX8_isUpdate_29
  replace hf := f_f c hf
  refine j_iconst X (v := (nI 1)) (by decide) dX8_isUpdate_24 ?_
  refine j_goto (tgt := 29) X dX8_isUpdate_25 (by decide) ?_
  exact j_bret X Y (Eq.trans (by decide : (nI 1) &&& 1 = (nI 1)) (f_s hf)) rfl dX8_isUpdate_29
abbrev rmX8_causeOf : Room := { frames := 0, cells := 0, slots := 0, locals := 0 }
theorem inX8_causeOf_X8 : ∀ w ∈ wsX80, w ∈ wsX8_causeOf := fun _ h => List.mem_cons_of_mem _ (List.mem_append_right _ h)
set_option maxRecDepth 100000 in
set_option maxHeartbeats 4000000 in
theorem c_X8_causeOf (hI : Inj 8 ad) {x1 : Int32} {x2 : Int32} {x3 : Int32} {w : Wd} {out : Int32} (hf : m_X8_causeOf x1 x2 x3 w = some out) : Met l yX8_causeOf wsX8_causeOf rmX8_causeOf (va_Pc [.ref (ad 0), .int x1, .int x2, .int x3] (PW D (tR cI) 8 ad (cellR cI ad) w)) (QWi D 8 ad (cellR cI ad) out w) 0 0 (AW 8 ad) := by
  refine mk_met (maxL := 4) (ret := (some .int)) RX8 hI (by decide) rfl rfl (Nat.le_of_ble_eq_true rfl) rfl rfl (fun p e s m args below meth c X Y => ?_)
  unfold m_X8_causeOf at hf
  refine j_aload_n X 0 dX8_causeOf_0 rfl rfl ?_
  refine j_get (ref := "ProxyVersionsModel") (index := 7) (v := .ref (ad 1)) X oMo inX8_causeOf_X8 rfl 0 (by decide) (List.mem_of_getElem? (i := 1) rfl) rfl rfl dX8_causeOf_1 ?_
  refine j_bipush X (v := (nI 23)) (by decide) dX8_causeOf_4 ?_
  refine j_bipush X (v := (nI 96)) (by decide) dX8_causeOf_6 ?_
  refine j_iload_n X 1 dX8_causeOf_8 rfl rfl ?_
  refine j_imul X dX8_causeOf_9 ?_
  refine j_iadd X dX8_causeOf_10 ?_
  refine j_iconst X (v := (nI 4)) (by decide) dX8_causeOf_11 ?_
  refine j_iload_n X 2 dX8_causeOf_12 rfl rfl ?_
  refine j_iconst X (v := (nI 1)) (by decide) dX8_causeOf_13 ?_
  refine j_isub X dX8_causeOf_14 ?_
  refine j_imul X dX8_causeOf_15 ?_
  refine j_iadd X dX8_causeOf_16 ?_
  refine j_iload_n X 3 dX8_causeOf_17 rfl rfl ?_
  refine j_iadd X dX8_causeOf_18 ?_
  obtain ⟨hi1, hf⟩ := f_c hf
  refine j_iald X 0 rfl r1 hi1 dX8_causeOf_19 ?_
  exact j_iret X Y (f_s hf) rfl dX8_causeOf_20
abbrev rmX8_knows : Room := { frames := 0, cells := 0, slots := 0, locals := 0 }
theorem inX8_knows_X8 : ∀ w ∈ wsX80, w ∈ wsX8_knows := fun _ h => List.mem_cons_of_mem _ (List.mem_append_right _ h)
set_option maxRecDepth 100000 in
set_option maxHeartbeats 4000000 in
theorem c_X8_knows (hI : Inj 8 ad) {x1 : Int32} {x2 : Int32} {x3 : Int32} {w : Wd} {out : Int32} (hf : m_X8_knows x1 x2 x3 w = some out) : Met l yX8_knows wsX8_knows rmX8_knows (va_Pc [.ref (ad 0), .int x1, .int x2, .int x3] (PW D (tR cI) 8 ad (cellR cI ad) w)) (QWi D 8 ad (cellR cI ad) out w) 0 0 (AW 8 ad) := by
  refine mk_met (maxL := 4) (ret := (some .boolean)) RX8 hI (by decide) rfl rfl (Nat.le_of_ble_eq_true rfl) rfl rfl (fun p e s m args below meth c X Y => ?_)
  unfold m_X8_knows at hf
  refine j_aload_n X 0 dX8_knows_0 rfl rfl ?_
  refine j_get (ref := "ProxyVersionsModel") (index := 7) (v := .ref (ad 1)) X oMo inX8_knows_X8 rfl 0 (by decide) (List.mem_of_getElem? (i := 1) rfl) rfl rfl dX8_knows_1 ?_
  refine j_sipush X (v := (nI 407)) (by decide) dX8_knows_4 ?_
  refine j_iconst X (v := (nI 4)) (by decide) dX8_knows_7 ?_
  refine j_iload_n X 1 dX8_knows_8 rfl rfl ?_
  refine j_imul X dX8_knows_9 ?_
  refine j_iadd X dX8_knows_10 ?_
  refine j_iload_n X 2 dX8_knows_11 rfl rfl ?_
  refine j_iadd X dX8_knows_12 ?_
  obtain ⟨hi1, hf⟩ := f_c hf
  refine j_iald X 0 rfl r1 hi1 dX8_knows_13 ?_
  refine j_iload_n X 3 dX8_knows_14 rfl rfl ?_
  refine j_ishr X dX8_knows_15 ?_
  refine j_iconst X (v := (nI 1)) (by decide) dX8_knows_16 ?_
  refine j_iand X dX8_knows_17 ?_
  refine j_iconst X (v := (nI 1)) (by decide) dX8_knows_18 ?_
  refine j_icmp_ne (tgt := 26) X dX8_knows_19 (by decide) (fun c => ?_) (fun c => ?_)
  · replace hf := f_t c hf
    refine j_iconst X (v := (nI 0)) (by decide) dX8_knows_26 ?_
    exact j_bret X Y (Eq.trans (by decide : (nI 0) &&& 1 = (nI 0)) (f_s hf)) rfl dX8_knows_27
  replace hf := f_fn c hf
  refine j_iconst X (v := (nI 1)) (by decide) dX8_knows_22 ?_
  refine j_goto (tgt := 27) X dX8_knows_23 (by decide) ?_
  exact j_bret X Y (Eq.trans (by decide : (nI 1) &&& 1 = (nI 1)) (f_s hf)) rfl dX8_knows_27
abbrev rmX8_addProxy : Room := { frames := 2, cells := 0, slots := 0, locals := 43 }
theorem inX8_addProxy_X8 : ∀ w ∈ wsX80, w ∈ wsX8_addProxy := fun _ h => List.mem_cons_of_mem _ (List.mem_append_right _ h)
set_option maxRecDepth 100000 in
set_option maxHeartbeats 4000000 in
theorem c_X8_addProxy (hI : Inj 8 ad) {x1 : Int32} {w : Wd} {out : Int32 × Wd} (hf : m_X8_addProxy x1 w = some out) : Met l yX8_addProxy wsX8_addProxy rmX8_addProxy (va_Pc [.ref (ad 0), .int x1] (PW D (tR cI) 8 ad (cellR cI ad) w)) (QWi D 8 ad (cellR cI ad) out.1 out.2) 0 0 (AW 8 ad) := by
  refine mk_met (maxL := 3) (ret := (some .int)) RX8 hI (by decide) rfl rfl (Nat.le_of_ble_eq_true rfl) rfl rfl (fun p e s m args below meth c X Y => ?_)
  unfold m_X8_addProxy at hf
  refine j_aload_n X 0 dX8_addProxy_0 rfl rfl ?_
  refine j_iload_n X 1 dX8_addProxy_1 rfl rfl ?_
  obtain ⟨o1, ho1, hf⟩ := f_bd hf
  refine j_callVi X oMo rfl rfl [.int x1] (c_X8_isProxy X.2.2.2.2.2.2.2 ho1) (cwV 1 X.2.2.2.2.1 gX8_addProxy_X8_isProxy rfl rfl rfl (by decide +kernel) ⟨Nat.le_of_ble_eq_true rfl, Nat.le_of_ble_eq_true rfl⟩) rfl rfl (Nat.le_of_ble_eq_true rfl) dX8_addProxy_2 ?_
  refine j_if_ne (tgt := 10) X dX8_addProxy_5 (by decide) (fun c => ?_) (fun c => ?_)
  · replace hf := f_t c hf
    refine j_aload_n X 0 dX8_addProxy_10 rfl rfl ?_
    refine j_get (ref := "ProxyVersionsModel") (index := 7) (v := .ref (ad 1)) X oMo inX8_addProxy_X8 rfl 0 (by decide) (List.mem_of_getElem? (i := 1) rfl) rfl rfl dX8_addProxy_11 ?_
    refine j_iconst X (v := (nI 0)) (by decide) dX8_addProxy_14 ?_
    obtain ⟨hi2, hf⟩ := f_c hf
    refine j_iald X 0 rfl r1 hi2 dX8_addProxy_15 ?_
    refine j_bipush X (v := (nI 8)) (by decide) dX8_addProxy_16 ?_
    refine j_icmp_ne (tgt := 24) X dX8_addProxy_18 (by decide) (fun c => ?_) (fun c => ?_)
    · replace hf := f_t c hf
      refine j_aload_n X 0 dX8_addProxy_24 rfl rfl ?_
      obtain ⟨o3, ho3, hf⟩ := f_bd hf
      refine j_callVv X oMo rfl rfl [] (c_X8_hold X.2.2.2.2.2.2.2 ho3) (cwV 0 X.2.2.2.2.1 gX8_addProxy_X8_hold rfl rfl rfl (by decide +kernel) ⟨Nat.le_of_ble_eq_true rfl, Nat.le_of_ble_eq_true rfl⟩) rfl rfl (Nat.le_of_ble_eq_true rfl) dX8_addProxy_25 ?_
      refine j_aload_n X 0 dX8_addProxy_28 rfl rfl ?_
      refine j_get (ref := "ProxyVersionsModel") (index := 7) (v := .ref (ad 1)) X oMo inX8_addProxy_X8 rfl 0 (by decide) (List.mem_of_getElem? (i := 1) rfl) rfl rfl dX8_addProxy_29 ?_
      refine j_iconst X (v := (nI 0)) (by decide) dX8_addProxy_32 ?_
      obtain ⟨hi4, hf⟩ := f_c hf
      refine j_iald X 0 rfl r1 hi4 dX8_addProxy_33 ?_
      obtain ⟨x2_5, ex2_5, hf⟩ := f_lt hf
      refine j_top ex2_5 ?_
      refine j_istore_n (lv' := [(0, .ref (ad 0)), (1, .int x1), (2, .int x2_5)]) X dX8_addProxy_34 rfl (by decide) rfl ?_
      refine j_aload_n X 0 dX8_addProxy_35 rfl rfl ?_
      refine j_get (ref := "ProxyVersionsModel") (index := 7) (v := .ref (ad 1)) X oMo inX8_addProxy_X8 rfl 0 (by decide) (List.mem_of_getElem? (i := 1) rfl) rfl rfl dX8_addProxy_36 ?_
      refine j_bipush X (v := (nI 7)) (by decide) dX8_addProxy_39 ?_
      refine j_iload_n X 2 dX8_addProxy_41 rfl rfl ?_
      refine j_iadd X dX8_addProxy_42 ?_
      refine j_iload_n X 1 dX8_addProxy_43 rfl rfl ?_
      obtain ⟨hi6, hf⟩ := f_c hf
      obtain ⟨w7, ew7, hf⟩ := f_lt hf
      refine j_iast X 0 rfl r1 hi6 dX8_addProxy_44 ew7 ?_
      refine j_aload_n X 0 dX8_addProxy_45 rfl rfl ?_
      refine j_get (ref := "ProxyVersionsModel") (index := 7) (v := .ref (ad 1)) X oMo inX8_addProxy_X8 rfl 0 (by decide) (List.mem_of_getElem? (i := 1) rfl) rfl rfl dX8_addProxy_46 ?_
      refine j_iconst X (v := (nI 0)) (by decide) dX8_addProxy_49 ?_
      refine j_dup2 X rfl rfl dX8_addProxy_50 ?_
      obtain ⟨hi8, hf⟩ := f_c hf
      refine j_iald X 0 rfl r1 hi8 dX8_addProxy_51 ?_
      refine j_iconst X (v := (nI 1)) (by decide) dX8_addProxy_52 ?_
      refine j_iadd X dX8_addProxy_53 ?_
      obtain ⟨hi9, hf⟩ := f_c hf
      obtain ⟨w10, ew10, hf⟩ := f_lt hf
      refine j_iast X 0 rfl r1 hi9 dX8_addProxy_54 ew10 ?_
      refine j_aload_n X 0 dX8_addProxy_55 rfl rfl ?_
      refine j_iload_n X 2 dX8_addProxy_56 rfl rfl ?_
      obtain ⟨o11, ho11, hf⟩ := f_bd hf
      refine j_callVi X oMo rfl rfl [.int x2_5] (c_X8_ends X.2.2.2.2.2.2.2 ho11) (cwV 1 X.2.2.2.2.1 gX8_addProxy_X8_ends rfl rfl rfl (by decide +kernel) ⟨Nat.le_of_ble_eq_true rfl, Nat.le_of_ble_eq_true rfl⟩) rfl rfl (Nat.le_of_ble_eq_true rfl) dX8_addProxy_57 ?_
      exact j_iret X Y (f_p1 hf) (f_p2 hf) dX8_addProxy_60
    replace hf := f_fn c hf
    refine j_bipush X (v := (-3 : Int32)) (by decide) dX8_addProxy_21 ?_
    exact j_iret X Y (f_p1 hf) (f_p2 hf) dX8_addProxy_23
  replace hf := f_fn c hf
  refine j_iconst X (v := (-1 : Int32)) (by decide) dX8_addProxy_8 ?_
  exact j_iret X Y (f_p1 hf) (f_p2 hf) dX8_addProxy_9
abbrev rmX8_setHome : Room := { frames := 2, cells := 0, slots := 0, locals := 43 }
theorem inX8_setHome_X8 : ∀ w ∈ wsX80, w ∈ wsX8_setHome := fun _ h => List.mem_cons_of_mem _ (List.mem_append_right _ h)
set_option maxRecDepth 100000 in
set_option maxHeartbeats 4000000 in
theorem c_X8_setHome (hI : Inj 8 ad) {x1 : Int32} {x2 : Int32} {w : Wd} {out : Int32 × Wd} (hf : m_X8_setHome x1 x2 w = some out) : Met l yX8_setHome wsX8_setHome rmX8_setHome (va_Pc [.ref (ad 0), .int x1, .int x2] (PW D (tR cI) 8 ad (cellR cI ad) w)) (QWi D 8 ad (cellR cI ad) out.1 out.2) 0 0 (AW 8 ad) := by
  refine mk_met (maxL := 4) (ret := (some .int)) RX8 hI (by decide) rfl rfl (Nat.le_of_ble_eq_true rfl) rfl rfl (fun p e s m args below meth c X Y => ?_)
  unfold m_X8_setHome at hf
  refine j_iload_n X 1 dX8_setHome_0 rfl rfl ?_
  obtain ⟨o1, ho1, hf⟩ := f_bd hf
  refine j_callSi X [.int x1] (c_X8_isOrigin X.2.2.2.2.2.2.2 ho1) (va_cwS 1 X.2.2.2.2.1 gX8_setHome_X8_isOrigin rfl rfl rfl (by decide +kernel) ⟨Nat.le_of_ble_eq_true rfl, Nat.le_of_ble_eq_true rfl⟩) rfl rfl (Nat.le_of_ble_eq_true rfl) dX8_setHome_1 ?_
  refine j_if_eq (tgt := 15) X dX8_setHome_4 (by decide) (fun c => ?_) (fun c => ?_)
  · replace hf := f_t c hf
    refine j_iconst X (v := (-1 : Int32)) (by decide) dX8_setHome_15 ?_
    exact j_iret X Y (f_p1 hf) (f_p2 hf) dX8_setHome_16
  replace hf := f_f c hf
  refine j_aload_n X 0 dX8_setHome_7 rfl rfl ?_
  refine j_iload_n X 2 dX8_setHome_8 rfl rfl ?_
  obtain ⟨o2, ho2, hf⟩ := f_bd hf
  refine j_callVi X oMo rfl rfl [.int x2] (c_X8_isProxy X.2.2.2.2.2.2.2 ho2) (cwV 1 X.2.2.2.2.1 gX8_setHome_X8_isProxy rfl rfl rfl (by decide +kernel) ⟨Nat.le_of_ble_eq_true rfl, Nat.le_of_ble_eq_true rfl⟩) rfl rfl (Nat.le_of_ble_eq_true rfl) dX8_setHome_9 ?_
  refine j_if_ne (tgt := 17) X dX8_setHome_12 (by decide) (fun c => ?_) (fun c => ?_)
  · replace hf := f_t c hf
    refine j_aload_n X 0 dX8_setHome_17 rfl rfl ?_
    refine j_get (ref := "ProxyVersionsModel") (index := 7) (v := .ref (ad 1)) X oMo inX8_setHome_X8 rfl 0 (by decide) (List.mem_of_getElem? (i := 1) rfl) rfl rfl dX8_setHome_18 ?_
    refine j_bipush X (v := (nI 19)) (by decide) dX8_setHome_21 ?_
    refine j_iload_n X 1 dX8_setHome_23 rfl rfl ?_
    refine j_iadd X dX8_setHome_24 ?_
    obtain ⟨hi3, hf⟩ := f_c hf
    refine j_iald X 0 rfl r1 hi3 dX8_setHome_25 ?_
    refine j_if_le (tgt := 32) X dX8_setHome_26 (by decide) (fun c => ?_) (fun c => ?_)
    · replace hf := f_t c hf
      refine j_aload_n X 0 dX8_setHome_32 rfl rfl ?_
      obtain ⟨o4, ho4, hf⟩ := f_bd hf
      refine j_callVv X oMo rfl rfl [] (c_X8_hold X.2.2.2.2.2.2.2 ho4) (cwV 0 X.2.2.2.2.1 gX8_setHome_X8_hold rfl rfl rfl (by decide +kernel) ⟨Nat.le_of_ble_eq_true rfl, Nat.le_of_ble_eq_true rfl⟩) rfl rfl (Nat.le_of_ble_eq_true rfl) dX8_setHome_33 ?_
      refine j_aload_n X 0 dX8_setHome_36 rfl rfl ?_
      refine j_get (ref := "ProxyVersionsModel") (index := 7) (v := .ref (ad 1)) X oMo inX8_setHome_X8 rfl 0 (by decide) (List.mem_of_getElem? (i := 1) rfl) rfl rfl dX8_setHome_37 ?_
      refine j_bipush X (v := (nI 15)) (by decide) dX8_setHome_40 ?_
      refine j_iload_n X 1 dX8_setHome_42 rfl rfl ?_
      refine j_iadd X dX8_setHome_43 ?_
      obtain ⟨hi5, hf⟩ := f_c hf
      refine j_iald X 0 rfl r1 hi5 dX8_setHome_44 ?_
      obtain ⟨x3_6, ex3_6, hf⟩ := f_lt hf
      refine j_top ex3_6 ?_
      refine j_istore_n (lv' := [(0, .ref (ad 0)), (1, .int x1), (2, .int x2), (3, .int x3_6)]) X dX8_setHome_45 rfl (by decide) rfl ?_
      refine j_aload_n X 0 dX8_setHome_46 rfl rfl ?_
      refine j_get (ref := "ProxyVersionsModel") (index := 7) (v := .ref (ad 1)) X oMo inX8_setHome_X8 rfl 0 (by decide) (List.mem_of_getElem? (i := 1) rfl) rfl rfl dX8_setHome_47 ?_
      refine j_bipush X (v := (nI 15)) (by decide) dX8_setHome_50 ?_
      refine j_iload_n X 1 dX8_setHome_52 rfl rfl ?_
      refine j_iadd X dX8_setHome_53 ?_
      refine j_iload_n X 2 dX8_setHome_54 rfl rfl ?_
      obtain ⟨hi7, hf⟩ := f_c hf
      obtain ⟨w8, ew8, hf⟩ := f_lt hf
      refine j_iast X 0 rfl r1 hi7 dX8_setHome_55 ew8 ?_
      refine j_aload_n X 0 dX8_setHome_56 rfl rfl ?_
      refine j_iload_n X 3 dX8_setHome_57 rfl rfl ?_
      obtain ⟨o9, ho9, hf⟩ := f_bd hf
      refine j_callVi X oMo rfl rfl [.int x3_6] (c_X8_ends X.2.2.2.2.2.2.2 ho9) (cwV 1 X.2.2.2.2.1 gX8_setHome_X8_ends rfl rfl rfl (by decide +kernel) ⟨Nat.le_of_ble_eq_true rfl, Nat.le_of_ble_eq_true rfl⟩) rfl rfl (Nat.le_of_ble_eq_true rfl) dX8_setHome_58 ?_
      exact j_iret X Y (f_p1 hf) (f_p2 hf) dX8_setHome_61
    replace hf := f_f c hf
    refine j_bipush X (v := (-2 : Int32)) (by decide) dX8_setHome_29 ?_
    exact j_iret X Y (f_p1 hf) (f_p2 hf) dX8_setHome_31
  replace hf := f_fn c hf
  refine j_iconst X (v := (-1 : Int32)) (by decide) dX8_setHome_15 ?_
  exact j_iret X Y (f_p1 hf) (f_p2 hf) dX8_setHome_16
abbrev rmX8_setLimits : Room := { frames := 1, cells := 0, slots := 0, locals := 22 }
theorem inX8_setLimits_X8 : ∀ w ∈ wsX80, w ∈ wsX8_setLimits := fun _ h => List.mem_cons_of_mem _ (List.mem_append_right _ h)
set_option maxRecDepth 100000 in
set_option maxHeartbeats 4000000 in
theorem t_X8_setLimits_j76 (X : CX p rmX8_setLimits s m args c cX8_setLimits 4 RX8 wsX8_setLimits D (tR cI) 8 ad) (Y : RX meth (some .int)) {s1 : Int32} {w : Wd} {out : Int32 × Wd} (hf : m_X8_setLimits_j76 s1 w = some out) : WJ p l e rmX8_setLimits s m args below meth c (MQ below (QWi D 8 ad (cellR cI ad) out.1 out.2) args s 0 0 (AW 8 ad)) 4 D 8 ad (cellR cI ad) w 76 [] [.int s1, .ref (ad 0)] := by
  unfold m_X8_setLimits_j76 at hf
  obtain ⟨o1, ho1, hf⟩ := f_bd hf
  refine j_callVi X oMo rfl rfl [.int s1] (c_X8_ends X.2.2.2.2.2.2.2 ho1) (cwV 1 X.2.2.2.2.1 gX8_setLimits_X8_ends rfl rfl rfl (by decide +kernel) ⟨Nat.le_of_ble_eq_true rfl, Nat.le_of_ble_eq_true rfl⟩) rfl rfl (Nat.le_of_ble_eq_true rfl) dX8_setLimits_76 ?_
  exact j_iret X Y (f_p1 hf) (f_p2 hf) dX8_setLimits_79
set_option maxRecDepth 100000 in
set_option maxHeartbeats 4000000 in
theorem t_X8_setLimits_j51 (X : CX p rmX8_setLimits s m args c cX8_setLimits 4 RX8 wsX8_setLimits D (tR cI) 8 ad) (Y : RX meth (some .int)) {x1 : Int32} {x2 : Int32} {s0 : Int32} {w : Wd} {out : Int32 × Wd} (hf : m_X8_setLimits_j51 x1 x2 s0 w = some out) : WJ p l e rmX8_setLimits s m args below meth c (MQ below (QWi D 8 ad (cellR cI ad) out.1 out.2) args s 0 0 (AW 8 ad)) 4 D 8 ad (cellR cI ad) w 51 [(0, .ref (ad 0)), (1, .int x1), (2, .int x2)] [.int s0] := by
  unfold m_X8_setLimits_j51 at hf
  refine j_istore_n (lv' := [(0, .ref (ad 0)), (1, .int x1), (2, .int x2), (3, .int s0)]) X dX8_setLimits_51 rfl (by decide) rfl ?_
  refine j_aload_n X 0 dX8_setLimits_52 rfl rfl ?_
  refine j_get (ref := "ProxyVersionsModel") (index := 7) (v := .ref (ad 1)) X oMo inX8_setLimits_X8 rfl 0 (by decide) (List.mem_of_getElem? (i := 1) rfl) rfl rfl dX8_setLimits_53 ?_
  refine j_iconst X (v := (nI 1)) (by decide) dX8_setLimits_56 ?_
  refine j_iload_n X 1 dX8_setLimits_57 rfl rfl ?_
  obtain ⟨hi1, hf⟩ := f_c hf
  obtain ⟨w2, ew2, hf⟩ := f_lt hf
  refine j_iast X 0 rfl r1 hi1 dX8_setLimits_58 ew2 ?_
  refine j_aload_n X 0 dX8_setLimits_59 rfl rfl ?_
  refine j_get (ref := "ProxyVersionsModel") (index := 7) (v := .ref (ad 1)) X oMo inX8_setLimits_X8 rfl 0 (by decide) (List.mem_of_getElem? (i := 1) rfl) rfl rfl dX8_setLimits_60 ?_
  refine j_iconst X (v := (nI 2)) (by decide) dX8_setLimits_63 ?_
  refine j_iload_n X 2 dX8_setLimits_64 rfl rfl ?_
  obtain ⟨hi3, hf⟩ := f_c hf
  obtain ⟨w4, ew4, hf⟩ := f_lt hf
  refine j_iast X 0 rfl r1 hi3 dX8_setLimits_65 ew4 ?_
  refine j_aload_n X 0 dX8_setLimits_66 rfl rfl ?_
  refine j_iload_n X 3 dX8_setLimits_67 rfl rfl ?_
  refine j_if_eq (tgt := 75) X dX8_setLimits_68 (by decide) (fun c => ?_) (fun c => ?_)
  · replace hf := f_t c hf
    refine j_iconst X (v := (nI 0)) (by decide) dX8_setLimits_75 ?_
    refine j_sub [] rfl ?_
    exact t_X8_setLimits_j76 X Y hf
  replace hf := f_f c hf
  refine j_iconst X (v := (nI 1)) (by decide) dX8_setLimits_71 ?_
  refine j_goto (tgt := 76) X dX8_setLimits_72 (by decide) ?_
  refine j_sub [] rfl ?_
  exact t_X8_setLimits_j76 X Y hf
set_option maxRecDepth 100000 in
set_option maxHeartbeats 4000000 in
theorem t_X8_setLimits_j46 (X : CX p rmX8_setLimits s m args c cX8_setLimits 4 RX8 wsX8_setLimits D (tR cI) 8 ad) (Y : RX meth (some .int)) {x1 : Int32} {x2 : Int32} {w : Wd} {out : Int32 × Wd} (hf : m_X8_setLimits_j46 x1 x2 w = some out) : WJ p l e rmX8_setLimits s m args below meth c (MQ below (QWi D 8 ad (cellR cI ad) out.1 out.2) args s 0 0 (AW 8 ad)) 4 D 8 ad (cellR cI ad) w 46 [(0, .ref (ad 0)), (1, .int x1), (2, .int x2)] [] := by
  unfold m_X8_setLimits_j46 at hf
  refine j_iconst X (v := (nI 1)) (by decide) dX8_setLimits_46 ?_
  refine j_goto (tgt := 51) X dX8_setLimits_47 (by decide) ?_
  exact t_X8_setLimits_j51 X Y hf
set_option maxRecDepth 100000 in
set_option maxHeartbeats 4000000 in
theorem c_X8_setLimits (hI : Inj 8 ad) {x1 : Int32} {x2 : Int32} {w : Wd} {out : Int32 × Wd} (hf : m_X8_setLimits x1 x2 w = some out) : Met l yX8_setLimits wsX8_setLimits rmX8_setLimits (va_Pc [.ref (ad 0), .int x1, .int x2] (PW D (tR cI) 8 ad (cellR cI ad) w)) (QWi D 8 ad (cellR cI ad) out.1 out.2) 0 0 (AW 8 ad) := by
  refine mk_met (maxL := 4) (ret := (some .int)) RX8 hI (by decide) rfl rfl (Nat.le_of_ble_eq_true rfl) rfl rfl (fun p e s m args below meth c X Y => ?_)
  unfold m_X8_setLimits at hf
  refine j_iload_n X 1 dX8_setLimits_0 rfl rfl ?_
  refine j_iconst X (v := (nI 0)) (by decide) dX8_setLimits_1 ?_
  refine j_bipush X (v := (nI 8)) (by decide) dX8_setLimits_2 ?_
  obtain ⟨o1, ho1, hf⟩ := f_bd hf
  refine j_callSi X [.int x1, .int (nI 0), .int (nI 8)] (c_X8_in X.2.2.2.2.2.2.2 ho1) (va_cwS 3 X.2.2.2.2.1 gX8_setLimits_X8_in rfl rfl rfl (by decide +kernel) ⟨Nat.le_of_ble_eq_true rfl, Nat.le_of_ble_eq_true rfl⟩) rfl rfl (Nat.le_of_ble_eq_true rfl) dX8_setLimits_4 ?_
  refine j_if_eq (tgt := 20) X dX8_setLimits_7 (by decide) (fun c => ?_) (fun c => ?_)
  · replace hf := f_t c hf
    refine j_iconst X (v := (-1 : Int32)) (by decide) dX8_setLimits_20 ?_
    exact j_iret X Y (f_p1 hf) (f_p2 hf) dX8_setLimits_21
  replace hf := f_f c hf
  refine j_iload_n X 2 dX8_setLimits_10 rfl rfl ?_
  refine j_iconst X (v := (nI 1)) (by decide) dX8_setLimits_11 ?_
  refine j_bipush X (v := (nI 12)) (by decide) dX8_setLimits_12 ?_
  obtain ⟨o2, ho2, hf⟩ := f_bd hf
  refine j_callSi X [.int x2, .int (nI 1), .int (nI 12)] (c_X8_in X.2.2.2.2.2.2.2 ho2) (va_cwS 3 X.2.2.2.2.1 gX8_setLimits_X8_in rfl rfl rfl (by decide +kernel) ⟨Nat.le_of_ble_eq_true rfl, Nat.le_of_ble_eq_true rfl⟩) rfl rfl (Nat.le_of_ble_eq_true rfl) dX8_setLimits_14 ?_
  refine j_if_ne (tgt := 22) X dX8_setLimits_17 (by decide) (fun c => ?_) (fun c => ?_)
  · replace hf := f_t c hf
    refine j_aload_n X 0 dX8_setLimits_22 rfl rfl ?_
    obtain ⟨o3, ho3, hf⟩ := f_bd hf
    refine j_callVv X oMo rfl rfl [] (c_X8_hold X.2.2.2.2.2.2.2 ho3) (cwV 0 X.2.2.2.2.1 gX8_setLimits_X8_hold rfl rfl rfl (by decide +kernel) ⟨Nat.le_of_ble_eq_true rfl, Nat.le_of_ble_eq_true rfl⟩) rfl rfl (Nat.le_of_ble_eq_true rfl) dX8_setLimits_23 ?_
    refine j_aload_n X 0 dX8_setLimits_26 rfl rfl ?_
    refine j_get (ref := "ProxyVersionsModel") (index := 7) (v := .ref (ad 1)) X oMo inX8_setLimits_X8 rfl 0 (by decide) (List.mem_of_getElem? (i := 1) rfl) rfl rfl dX8_setLimits_27 ?_
    refine j_iconst X (v := (nI 1)) (by decide) dX8_setLimits_30 ?_
    obtain ⟨hi4, hf⟩ := f_c hf
    refine j_iald X 0 rfl r1 hi4 dX8_setLimits_31 ?_
    refine j_iload_n X 1 dX8_setLimits_32 rfl rfl ?_
    refine j_icmp_ne (tgt := 46) X dX8_setLimits_33 (by decide) (fun c => ?_) (fun c => ?_)
    · replace hf := f_t c hf
      exact t_X8_setLimits_j46 X Y hf
    replace hf := f_fn c hf
    refine j_aload_n X 0 dX8_setLimits_36 rfl rfl ?_
    refine j_get (ref := "ProxyVersionsModel") (index := 7) (v := .ref (ad 1)) X oMo inX8_setLimits_X8 rfl 0 (by decide) (List.mem_of_getElem? (i := 1) rfl) rfl rfl dX8_setLimits_37 ?_
    refine j_iconst X (v := (nI 2)) (by decide) dX8_setLimits_40 ?_
    obtain ⟨hi5, hf⟩ := f_c hf
    refine j_iald X 0 rfl r1 hi5 dX8_setLimits_41 ?_
    refine j_iload_n X 2 dX8_setLimits_42 rfl rfl ?_
    refine j_icmp_eq (tgt := 50) X dX8_setLimits_43 (by decide) (fun c => ?_) (fun c => ?_)
    · replace hf := f_t c hf
      refine j_iconst X (v := (nI 0)) (by decide) dX8_setLimits_50 ?_
      exact t_X8_setLimits_j51 X Y hf
    replace hf := f_f c hf
    exact t_X8_setLimits_j46 X Y hf
  replace hf := f_fn c hf
  refine j_iconst X (v := (-1 : Int32)) (by decide) dX8_setLimits_20 ?_
  exact j_iret X Y (f_p1 hf) (f_p2 hf) dX8_setLimits_21
abbrev rmX8_boundOf : Room := { frames := 1, cells := 0, slots := 0, locals := 23 }
set_option maxRecDepth 100000 in
set_option maxHeartbeats 4000000 in
theorem t_X8_boundOf_j29 (X : CX p rmX8_boundOf s m args c cX8_boundOf 5 RX8 wsX8_boundOf D (tR cI) 8 ad) (Y : RX meth (some .int)) {x1 : Int32} {x2 : Int32} {x4 : Int32} {s0 : Int32} {w : Wd} {kc : Int32 → Int32 → Option (Int32)} {out : Int32} (hf : m_X8_boundOf_j29 x1 x2 x4 s0 w kc = some out) (hk_kc : ∀ (y3 : Int32) (y4 : Int32), kc y3 y4 = some out → WJ p l e rmX8_boundOf s m args below meth c (MQ below (QWi D 8 ad (cellR cI ad) out w) args s 0 0 (AW 8 ad)) 5 D 8 ad (cellR cI ad) w 5 [(0, .ref (ad 0)), (1, .int x1), (2, .int x2), (3, .int y3), (4, .int y4)] []) : WJ p l e rmX8_boundOf s m args below meth c (MQ below (QWi D 8 ad (cellR cI ad) out w) args s 0 0 (AW 8 ad)) 5 D 8 ad (cellR cI ad) w 29 [(0, .ref (ad 0)), (1, .int x1), (2, .int x2), (4, .int x4)] [.int s0] := by
  unfold m_X8_boundOf_j29 at hf
  refine j_istore_n (lv' := [(0, .ref (ad 0)), (1, .int x1), (2, .int x2), (3, .int s0), (4, .int x4)]) X dX8_boundOf_29 rfl (by decide) rfl ?_
  refine j_iinc (v := (x4 + (nI 1))) (lv' := [(0, .ref (ad 0)), (1, .int x1), (2, .int x2), (3, .int s0), (4, .int (x4 + (nI 1)))]) X 4 dX8_boundOf_30 rfl rfl (by decide) rfl ?_
  refine j_goto (tgt := 5) X dX8_boundOf_33 (by decide) ?_
  exact hk_kc _ _ hf
set_option maxRecDepth 100000 in
set_option maxHeartbeats 4000000 in
theorem t_X8_boundOf_L5 (X : CX p rmX8_boundOf s m args c cX8_boundOf 5 RX8 wsX8_boundOf D (tR cI) 8 ad) (Y : RX meth (some .int)) {x1 : Int32} {x2 : Int32} {w : Wd} {out : Int32} : ∀ (n : Nat) (x3 : Int32) (x4 : Int32), m_X8_boundOf_L5 x1 x2 w n x3 x4 = some out → WJ p l e rmX8_boundOf s m args below meth c (MQ below (QWi D 8 ad (cellR cI ad) out w) args s 0 0 (AW 8 ad)) 5 D 8 ad (cellR cI ad) w 5 [(0, .ref (ad 0)), (1, .int x1), (2, .int x2), (3, .int x3), (4, .int x4)] [] := by
  intro n
  induction n with
  | zero => intro x3 x4 hf; exact f_n hf
  | succ n ih =>
    intro x3 x4 hf
    rw [m_X8_boundOf_L5] at hf
    refine j_iload X 4 dX8_boundOf_5 rfl ?_
    refine j_bipush X (v := (nI 24)) (by decide) dX8_boundOf_7 ?_
    refine j_icmp_gt (tgt := 36) X dX8_boundOf_9 (by decide) (fun c => ?_) (fun c => ?_)
    · replace hf := f_t c hf
      refine j_iload_n X 3 dX8_boundOf_36 rfl rfl ?_
      exact j_iret X Y (f_s hf) rfl dX8_boundOf_37
    replace hf := f_f c hf
    refine j_aload_n X 0 dX8_boundOf_12 rfl rfl ?_
    refine j_iload_n X 1 dX8_boundOf_13 rfl rfl ?_
    refine j_iload_n X 2 dX8_boundOf_14 rfl rfl ?_
    refine j_iload X 4 dX8_boundOf_15 rfl ?_
    obtain ⟨o1, ho1, hf⟩ := f_bd hf
    refine j_callVi X oMo rfl rfl [.int x1, .int x2, .int x4] (c_X8_knows X.2.2.2.2.2.2.2 ho1) (cwV 3 X.2.2.2.2.1 gX8_boundOf_X8_knows rfl rfl rfl (by decide +kernel) ⟨Nat.le_of_ble_eq_true rfl, Nat.le_of_ble_eq_true rfl⟩) rfl rfl (Nat.le_of_ble_eq_true rfl) dX8_boundOf_17 ?_
    refine j_if_eq (tgt := 28) X dX8_boundOf_20 (by decide) (fun c => ?_) (fun c => ?_)
    · replace hf := f_t c hf
      refine j_iload_n X 3 dX8_boundOf_28 rfl rfl ?_
      refine j_sub [0, 1, 2, 4] rfl ?_
      exact t_X8_boundOf_j29 X Y hf ih
    replace hf := f_f c hf
    refine j_iload X 4 dX8_boundOf_23 rfl ?_
    refine j_goto (tgt := 29) X dX8_boundOf_25 (by decide) ?_
    refine j_sub [0, 1, 2, 4] rfl ?_
    exact t_X8_boundOf_j29 X Y hf ih
set_option maxRecDepth 100000 in
set_option maxHeartbeats 4000000 in
theorem c_X8_boundOf (hI : Inj 8 ad) {x1 : Int32} {x2 : Int32} {w : Wd} {out : Int32} (hf : m_X8_boundOf x1 x2 w = some out) : Met l yX8_boundOf wsX8_boundOf rmX8_boundOf (va_Pc [.ref (ad 0), .int x1, .int x2] (PW D (tR cI) 8 ad (cellR cI ad) w)) (QWi D 8 ad (cellR cI ad) out w) 0 0 (AW 8 ad) := by
  refine mk_met (maxL := 5) (ret := (some .int)) RX8 hI (by decide) rfl rfl (Nat.le_of_ble_eq_true rfl) rfl rfl (fun p e s m args below meth c X Y => ?_)
  unfold m_X8_boundOf at hf
  refine j_iconst X (v := (nI 0)) (by decide) dX8_boundOf_0 ?_
  refine j_istore_n (lv' := [(0, .ref (ad 0)), (1, .int x1), (2, .int x2), (3, .int (nI 0))]) X dX8_boundOf_1 rfl (by decide) rfl ?_
  refine j_iconst X (v := (nI 1)) (by decide) dX8_boundOf_2 ?_
  refine j_istore (lv' := [(0, .ref (ad 0)), (1, .int x1), (2, .int x2), (3, .int (nI 0)), (4, .int (nI 1))]) X dX8_boundOf_3 (by decide) rfl ?_
  refine t_X8_boundOf_L5 X Y _ _ _ hf
abbrev rmX8_rangesOf : Room := { frames := 1, cells := 0, slots := 0, locals := 23 }
set_option maxRecDepth 100000 in
set_option maxHeartbeats 4000000 in
theorem t_X8_rangesOf_j42 (X : CX p rmX8_rangesOf s m args c cX8_rangesOf 5 RX8 wsX8_rangesOf D (tR cI) 8 ad) (Y : RX meth (some .int)) {x1 : Int32} {x2 : Int32} {x4 : Int32} {s0 : Int32} {s1 : Int32} {w : Wd} {kc : Int32 → Int32 → Option (Int32)} {out : Int32} (hf : m_X8_rangesOf_j42 x1 x2 x4 s0 s1 w kc = some out) (hk_kc : ∀ (y3 : Int32) (y4 : Int32), kc y3 y4 = some out → WJ p l e rmX8_rangesOf s m args below meth c (MQ below (QWi D 8 ad (cellR cI ad) out w) args s 0 0 (AW 8 ad)) 5 D 8 ad (cellR cI ad) w 5 [(0, .ref (ad 0)), (1, .int x1), (2, .int x2), (3, .int y3), (4, .int y4)] []) : WJ p l e rmX8_rangesOf s m args below meth c (MQ below (QWi D 8 ad (cellR cI ad) out w) args s 0 0 (AW 8 ad)) 5 D 8 ad (cellR cI ad) w 42 [(0, .ref (ad 0)), (1, .int x1), (2, .int x2), (4, .int x4)] [.int s1, .int s0] := by
  unfold m_X8_rangesOf_j42 at hf
  refine j_iadd X dX8_rangesOf_42 ?_
  obtain ⟨x3_1, ex3_1, hf⟩ := f_lt hf
  refine j_top ex3_1 ?_
  refine j_istore_n (lv' := [(0, .ref (ad 0)), (1, .int x1), (2, .int x2), (3, .int x3_1), (4, .int x4)]) X dX8_rangesOf_43 rfl (by decide) rfl ?_
  refine j_iinc (v := (x4 + (nI 1))) (lv' := [(0, .ref (ad 0)), (1, .int x1), (2, .int x2), (3, .int x3_1), (4, .int (x4 + (nI 1)))]) X 4 dX8_rangesOf_44 rfl rfl (by decide) rfl ?_
  refine j_goto (tgt := 5) X dX8_rangesOf_47 (by decide) ?_
  exact hk_kc _ _ hf
set_option maxRecDepth 100000 in
set_option maxHeartbeats 4000000 in
theorem t_X8_rangesOf_j41 (X : CX p rmX8_rangesOf s m args c cX8_rangesOf 5 RX8 wsX8_rangesOf D (tR cI) 8 ad) (Y : RX meth (some .int)) {x1 : Int32} {x2 : Int32} {x4 : Int32} {s0 : Int32} {w : Wd} {kc : Int32 → Int32 → Option (Int32)} {out : Int32} (hf : m_X8_rangesOf_j41 x1 x2 x4 s0 w kc = some out) (hk_kc : ∀ (y3 : Int32) (y4 : Int32), kc y3 y4 = some out → WJ p l e rmX8_rangesOf s m args below meth c (MQ below (QWi D 8 ad (cellR cI ad) out w) args s 0 0 (AW 8 ad)) 5 D 8 ad (cellR cI ad) w 5 [(0, .ref (ad 0)), (1, .int x1), (2, .int x2), (3, .int y3), (4, .int y4)] []) : WJ p l e rmX8_rangesOf s m args below meth c (MQ below (QWi D 8 ad (cellR cI ad) out w) args s 0 0 (AW 8 ad)) 5 D 8 ad (cellR cI ad) w 41 [(0, .ref (ad 0)), (1, .int x1), (2, .int x2), (4, .int x4)] [.int s0] := by
  unfold m_X8_rangesOf_j41 at hf
  refine j_iconst X (v := (nI 0)) (by decide) dX8_rangesOf_41 ?_
  exact t_X8_rangesOf_j42 X Y hf hk_kc
set_option maxRecDepth 100000 in
set_option maxHeartbeats 4000000 in
theorem t_X8_rangesOf_L5 (X : CX p rmX8_rangesOf s m args c cX8_rangesOf 5 RX8 wsX8_rangesOf D (tR cI) 8 ad) (Y : RX meth (some .int)) {x1 : Int32} {x2 : Int32} {w : Wd} {out : Int32} : ∀ (n : Nat) (x3 : Int32) (x4 : Int32), m_X8_rangesOf_L5 x1 x2 w n x3 x4 = some out → WJ p l e rmX8_rangesOf s m args below meth c (MQ below (QWi D 8 ad (cellR cI ad) out w) args s 0 0 (AW 8 ad)) 5 D 8 ad (cellR cI ad) w 5 [(0, .ref (ad 0)), (1, .int x1), (2, .int x2), (3, .int x3), (4, .int x4)] [] := by
  intro n
  induction n with
  | zero => intro x3 x4 hf; exact f_n hf
  | succ n ih =>
    intro x3 x4 hf
    rw [m_X8_rangesOf_L5] at hf
    refine j_iload X 4 dX8_rangesOf_5 rfl ?_
    refine j_bipush X (v := (nI 24)) (by decide) dX8_rangesOf_7 ?_
    refine j_icmp_ge (tgt := 50) X dX8_rangesOf_9 (by decide) (fun c => ?_) (fun c => ?_)
    · replace hf := f_t c hf
      refine j_iload_n X 3 dX8_rangesOf_50 rfl rfl ?_
      exact j_iret X Y (f_s hf) rfl dX8_rangesOf_51
    replace hf := f_f c hf
    refine j_iload_n X 3 dX8_rangesOf_12 rfl rfl ?_
    refine j_aload_n X 0 dX8_rangesOf_13 rfl rfl ?_
    refine j_iload_n X 1 dX8_rangesOf_14 rfl rfl ?_
    refine j_iload_n X 2 dX8_rangesOf_15 rfl rfl ?_
    refine j_iload X 4 dX8_rangesOf_16 rfl ?_
    obtain ⟨o1, ho1, hf⟩ := f_bd hf
    refine j_callVi X oMo rfl rfl [.int x1, .int x2, .int x4] (c_X8_knows X.2.2.2.2.2.2.2 ho1) (cwV 3 X.2.2.2.2.1 gX8_rangesOf_X8_knows rfl rfl rfl (by decide +kernel) ⟨Nat.le_of_ble_eq_true rfl, Nat.le_of_ble_eq_true rfl⟩) rfl rfl (Nat.le_of_ble_eq_true rfl) dX8_rangesOf_18 ?_
    refine j_if_ne (tgt := 41) X dX8_rangesOf_21 (by decide) (fun c => ?_) (fun c => ?_)
    · replace hf := f_t c hf
      refine j_sub [0, 1, 2, 4] rfl ?_
      exact t_X8_rangesOf_j41 X Y hf ih
    replace hf := f_fn c hf
    refine j_aload_n X 0 dX8_rangesOf_24 rfl rfl ?_
    refine j_iload_n X 1 dX8_rangesOf_25 rfl rfl ?_
    refine j_iload_n X 2 dX8_rangesOf_26 rfl rfl ?_
    refine j_iload X 4 dX8_rangesOf_27 rfl ?_
    refine j_iconst X (v := (nI 1)) (by decide) dX8_rangesOf_29 ?_
    refine j_iadd X dX8_rangesOf_30 ?_
    obtain ⟨o2, ho2, hf⟩ := f_bd hf
    refine j_callVi X oMo rfl rfl [.int x1, .int x2, .int (x4 + (nI 1))] (c_X8_knows X.2.2.2.2.2.2.2 ho2) (cwV 3 X.2.2.2.2.1 gX8_rangesOf_X8_knows rfl rfl rfl (by decide +kernel) ⟨Nat.le_of_ble_eq_true rfl, Nat.le_of_ble_eq_true rfl⟩) rfl rfl (Nat.le_of_ble_eq_true rfl) dX8_rangesOf_31 ?_
    refine j_if_eq (tgt := 41) X dX8_rangesOf_34 (by decide) (fun c => ?_) (fun c => ?_)
    · replace hf := f_t c hf
      refine j_sub [0, 1, 2, 4] rfl ?_
      exact t_X8_rangesOf_j41 X Y hf ih
    replace hf := f_f c hf
    refine j_iconst X (v := (nI 1)) (by decide) dX8_rangesOf_37 ?_
    refine j_goto (tgt := 42) X dX8_rangesOf_38 (by decide) ?_
    refine j_sub [0, 1, 2, 4] rfl ?_
    exact t_X8_rangesOf_j42 X Y hf ih
set_option maxRecDepth 100000 in
set_option maxHeartbeats 4000000 in
theorem c_X8_rangesOf (hI : Inj 8 ad) {x1 : Int32} {x2 : Int32} {w : Wd} {out : Int32} (hf : m_X8_rangesOf x1 x2 w = some out) : Met l yX8_rangesOf wsX8_rangesOf rmX8_rangesOf (va_Pc [.ref (ad 0), .int x1, .int x2] (PW D (tR cI) 8 ad (cellR cI ad) w)) (QWi D 8 ad (cellR cI ad) out w) 0 0 (AW 8 ad) := by
  refine mk_met (maxL := 5) (ret := (some .int)) RX8 hI (by decide) rfl rfl (Nat.le_of_ble_eq_true rfl) rfl rfl (fun p e s m args below meth c X Y => ?_)
  unfold m_X8_rangesOf at hf
  refine j_iconst X (v := (nI 0)) (by decide) dX8_rangesOf_0 ?_
  refine j_istore_n (lv' := [(0, .ref (ad 0)), (1, .int x1), (2, .int x2), (3, .int (nI 0))]) X dX8_rangesOf_1 rfl (by decide) rfl ?_
  refine j_iconst X (v := (nI 1)) (by decide) dX8_rangesOf_2 ?_
  refine j_istore (lv' := [(0, .ref (ad 0)), (1, .int x1), (2, .int x2), (3, .int (nI 0)), (4, .int (nI 1))]) X dX8_rangesOf_3 (by decide) rfl ?_
  refine t_X8_rangesOf_L5 X Y _ _ _ hf
abbrev rmX8_allRanges : Room := { frames := 2, cells := 0, slots := 0, locals := 47 }
set_option maxRecDepth 100000 in
set_option maxHeartbeats 4000000 in
theorem t_X8_allRanges_L4 (X : CX p rmX8_allRanges s m args c cX8_allRanges 4 RX8 wsX8_allRanges D (tR cI) 8 ad) (Y : RX meth (some .int)) {x1 : Int32} {w : Wd} {out : Int32} : ∀ (n : Nat) (x2 : Int32) (x3 : Int32), m_X8_allRanges_L4 x1 w n x2 x3 = some out → WJ p l e rmX8_allRanges s m args below meth c (MQ below (QWi D 8 ad (cellR cI ad) out w) args s 0 0 (AW 8 ad)) 4 D 8 ad (cellR cI ad) w 4 [(0, .ref (ad 0)), (1, .int x1), (2, .int x2), (3, .int x3)] [] := by
  intro n
  induction n with
  | zero => intro x2 x3 hf; exact f_n hf
  | succ n ih =>
    intro x2 x3 hf
    rw [m_X8_allRanges_L4] at hf
    refine j_iload_n X 3 dX8_allRanges_4 rfl rfl ?_
    refine j_iconst X (v := (nI 4)) (by decide) dX8_allRanges_5 ?_
    refine j_icmp_ge (tgt := 24) X dX8_allRanges_6 (by decide) (fun c => ?_) (fun c => ?_)
    · replace hf := f_t c hf
      refine j_iload_n X 2 dX8_allRanges_24 rfl rfl ?_
      exact j_iret X Y (f_s hf) rfl dX8_allRanges_25
    replace hf := f_f c hf
    refine j_iload_n X 2 dX8_allRanges_9 rfl rfl ?_
    refine j_aload_n X 0 dX8_allRanges_10 rfl rfl ?_
    refine j_iload_n X 1 dX8_allRanges_11 rfl rfl ?_
    refine j_iload_n X 3 dX8_allRanges_12 rfl rfl ?_
    obtain ⟨o1, ho1, hf⟩ := f_bd hf
    refine j_callVi X oMo rfl rfl [.int x1, .int x3] (c_X8_rangesOf X.2.2.2.2.2.2.2 ho1) (cwV 2 X.2.2.2.2.1 gX8_allRanges_X8_rangesOf rfl rfl rfl (by decide +kernel) ⟨Nat.le_of_ble_eq_true rfl, Nat.le_of_ble_eq_true rfl⟩) rfl rfl (Nat.le_of_ble_eq_true rfl) dX8_allRanges_13 ?_
    refine j_iadd X dX8_allRanges_16 ?_
    obtain ⟨x2_2, ex2_2, hf⟩ := f_lt hf
    refine j_top ex2_2 ?_
    refine j_istore_n (lv' := [(0, .ref (ad 0)), (1, .int x1), (2, .int x2_2), (3, .int x3)]) X dX8_allRanges_17 rfl (by decide) rfl ?_
    refine j_iinc (v := (x3 + (nI 1))) (lv' := [(0, .ref (ad 0)), (1, .int x1), (2, .int x2_2), (3, .int (x3 + (nI 1)))]) X 3 dX8_allRanges_18 rfl rfl (by decide) rfl ?_
    refine j_goto (tgt := 4) X dX8_allRanges_21 (by decide) ?_
    exact ih _ _ hf
set_option maxRecDepth 100000 in
set_option maxHeartbeats 4000000 in
theorem c_X8_allRanges (hI : Inj 8 ad) {x1 : Int32} {w : Wd} {out : Int32} (hf : m_X8_allRanges x1 w = some out) : Met l yX8_allRanges wsX8_allRanges rmX8_allRanges (va_Pc [.ref (ad 0), .int x1] (PW D (tR cI) 8 ad (cellR cI ad) w)) (QWi D 8 ad (cellR cI ad) out w) 0 0 (AW 8 ad) := by
  refine mk_met (maxL := 4) (ret := (some .int)) RX8 hI (by decide) rfl rfl (Nat.le_of_ble_eq_true rfl) rfl rfl (fun p e s m args below meth c X Y => ?_)
  unfold m_X8_allRanges at hf
  refine j_iconst X (v := (nI 0)) (by decide) dX8_allRanges_0 ?_
  refine j_istore_n (lv' := [(0, .ref (ad 0)), (1, .int x1), (2, .int (nI 0))]) X dX8_allRanges_1 rfl (by decide) rfl ?_
  refine j_iconst X (v := (nI 0)) (by decide) dX8_allRanges_2 ?_
  refine j_istore_n (lv' := [(0, .ref (ad 0)), (1, .int x1), (2, .int (nI 0)), (3, .int (nI 0))]) X dX8_allRanges_3 rfl (by decide) rfl ?_
  refine t_X8_allRanges_L4 X Y _ _ _ hf
abbrev rmX8_knownMany : Room := { frames := 1, cells := 0, slots := 0, locals := 23 }
set_option maxRecDepth 100000 in
set_option maxHeartbeats 4000000 in
theorem t_X8_knownMany_j29 (X : CX p rmX8_knownMany s m args c cX8_knownMany 5 RX8 wsX8_knownMany D (tR cI) 8 ad) (Y : RX meth (some .int)) {x1 : Int32} {x2 : Int32} {x4 : Int32} {s0 : Int32} {s1 : Int32} {w : Wd} {kc : Int32 → Int32 → Option (Int32)} {out : Int32} (hf : m_X8_knownMany_j29 x1 x2 x4 s0 s1 w kc = some out) (hk_kc : ∀ (y3 : Int32) (y4 : Int32), kc y3 y4 = some out → WJ p l e rmX8_knownMany s m args below meth c (MQ below (QWi D 8 ad (cellR cI ad) out w) args s 0 0 (AW 8 ad)) 5 D 8 ad (cellR cI ad) w 5 [(0, .ref (ad 0)), (1, .int x1), (2, .int x2), (3, .int y3), (4, .int y4)] []) : WJ p l e rmX8_knownMany s m args below meth c (MQ below (QWi D 8 ad (cellR cI ad) out w) args s 0 0 (AW 8 ad)) 5 D 8 ad (cellR cI ad) w 29 [(0, .ref (ad 0)), (1, .int x1), (2, .int x2), (4, .int x4)] [.int s1, .int s0] := by
  unfold m_X8_knownMany_j29 at hf
  refine j_iadd X dX8_knownMany_29 ?_
  obtain ⟨x3_1, ex3_1, hf⟩ := f_lt hf
  refine j_top ex3_1 ?_
  refine j_istore_n (lv' := [(0, .ref (ad 0)), (1, .int x1), (2, .int x2), (3, .int x3_1), (4, .int x4)]) X dX8_knownMany_30 rfl (by decide) rfl ?_
  refine j_iinc (v := (x4 + (nI 1))) (lv' := [(0, .ref (ad 0)), (1, .int x1), (2, .int x2), (3, .int x3_1), (4, .int (x4 + (nI 1)))]) X 4 dX8_knownMany_31 rfl rfl (by decide) rfl ?_
  refine j_goto (tgt := 5) X dX8_knownMany_34 (by decide) ?_
  exact hk_kc _ _ hf
set_option maxRecDepth 100000 in
set_option maxHeartbeats 4000000 in
theorem t_X8_knownMany_L5 (X : CX p rmX8_knownMany s m args c cX8_knownMany 5 RX8 wsX8_knownMany D (tR cI) 8 ad) (Y : RX meth (some .int)) {x1 : Int32} {x2 : Int32} {w : Wd} {out : Int32} : ∀ (n : Nat) (x3 : Int32) (x4 : Int32), m_X8_knownMany_L5 x1 x2 w n x3 x4 = some out → WJ p l e rmX8_knownMany s m args below meth c (MQ below (QWi D 8 ad (cellR cI ad) out w) args s 0 0 (AW 8 ad)) 5 D 8 ad (cellR cI ad) w 5 [(0, .ref (ad 0)), (1, .int x1), (2, .int x2), (3, .int x3), (4, .int x4)] [] := by
  intro n
  induction n with
  | zero => intro x3 x4 hf; exact f_n hf
  | succ n ih =>
    intro x3 x4 hf
    rw [m_X8_knownMany_L5] at hf
    refine j_iload X 4 dX8_knownMany_5 rfl ?_
    refine j_bipush X (v := (nI 24)) (by decide) dX8_knownMany_7 ?_
    refine j_icmp_gt (tgt := 37) X dX8_knownMany_9 (by decide) (fun c => ?_) (fun c => ?_)
    · replace hf := f_t c hf
      refine j_iload_n X 3 dX8_knownMany_37 rfl rfl ?_
      exact j_iret X Y (f_s hf) rfl dX8_knownMany_38
    replace hf := f_f c hf
    refine j_iload_n X 3 dX8_knownMany_12 rfl rfl ?_
    refine j_aload_n X 0 dX8_knownMany_13 rfl rfl ?_
    refine j_iload_n X 1 dX8_knownMany_14 rfl rfl ?_
    refine j_iload_n X 2 dX8_knownMany_15 rfl rfl ?_
    refine j_iload X 4 dX8_knownMany_16 rfl ?_
    obtain ⟨o1, ho1, hf⟩ := f_bd hf
    refine j_callVi X oMo rfl rfl [.int x1, .int x2, .int x4] (c_X8_knows X.2.2.2.2.2.2.2 ho1) (cwV 3 X.2.2.2.2.1 gX8_knownMany_X8_knows rfl rfl rfl (by decide +kernel) ⟨Nat.le_of_ble_eq_true rfl, Nat.le_of_ble_eq_true rfl⟩) rfl rfl (Nat.le_of_ble_eq_true rfl) dX8_knownMany_18 ?_
    refine j_if_eq (tgt := 28) X dX8_knownMany_21 (by decide) (fun c => ?_) (fun c => ?_)
    · replace hf := f_t c hf
      refine j_iconst X (v := (nI 0)) (by decide) dX8_knownMany_28 ?_
      refine j_sub [0, 1, 2, 4] rfl ?_
      exact t_X8_knownMany_j29 X Y hf ih
    replace hf := f_f c hf
    refine j_iconst X (v := (nI 1)) (by decide) dX8_knownMany_24 ?_
    refine j_goto (tgt := 29) X dX8_knownMany_25 (by decide) ?_
    refine j_sub [0, 1, 2, 4] rfl ?_
    exact t_X8_knownMany_j29 X Y hf ih
set_option maxRecDepth 100000 in
set_option maxHeartbeats 4000000 in
theorem c_X8_knownMany (hI : Inj 8 ad) {x1 : Int32} {x2 : Int32} {w : Wd} {out : Int32} (hf : m_X8_knownMany x1 x2 w = some out) : Met l yX8_knownMany wsX8_knownMany rmX8_knownMany (va_Pc [.ref (ad 0), .int x1, .int x2] (PW D (tR cI) 8 ad (cellR cI ad) w)) (QWi D 8 ad (cellR cI ad) out w) 0 0 (AW 8 ad) := by
  refine mk_met (maxL := 5) (ret := (some .int)) RX8 hI (by decide) rfl rfl (Nat.le_of_ble_eq_true rfl) rfl rfl (fun p e s m args below meth c X Y => ?_)
  unfold m_X8_knownMany at hf
  refine j_iconst X (v := (nI 0)) (by decide) dX8_knownMany_0 ?_
  refine j_istore_n (lv' := [(0, .ref (ad 0)), (1, .int x1), (2, .int x2), (3, .int (nI 0))]) X dX8_knownMany_1 rfl (by decide) rfl ?_
  refine j_iconst X (v := (nI 1)) (by decide) dX8_knownMany_2 ?_
  refine j_istore (lv' := [(0, .ref (ad 0)), (1, .int x1), (2, .int x2), (3, .int (nI 0)), (4, .int (nI 1))]) X dX8_knownMany_3 (by decide) rfl ?_
  refine t_X8_knownMany_L5 X Y _ _ _ hf
abbrev rmX8_isCaused : Room := { frames := 1, cells := 0, slots := 0, locals := 23 }
theorem inX8_isCaused_X8 : ∀ w ∈ wsX80, w ∈ wsX8_isCaused := fun _ h => List.mem_cons_of_mem _ (List.mem_append_right _ h)
set_option maxRecDepth 100000 in
set_option maxHeartbeats 4000000 in
theorem t_X8_isCaused_j38 (X : CX p rmX8_isCaused s m args c cX8_isCaused 5 RX8 wsX8_isCaused D (tR cI) 8 ad) (Y : RX meth (some .boolean)) {x1 : Int32} {x2 : Int32} {x4 : Int32} {s0 : Int32} {w : Wd} {kc : Int32 → Int32 → Option (Int32)} {out : Int32} (hf : m_X8_isCaused_j38 x1 x2 x4 s0 w kc = some out) (hk_kc : ∀ (y3 : Int32) (y4 : Int32), kc y3 y4 = some out → WJ p l e rmX8_isCaused s m args below meth c (MQ below (QWi D 8 ad (cellR cI ad) out w) args s 0 0 (AW 8 ad)) 5 D 8 ad (cellR cI ad) w 5 [(0, .ref (ad 0)), (1, .int x1), (2, .int x2), (3, .int y3), (4, .int y4)] []) : WJ p l e rmX8_isCaused s m args below meth c (MQ below (QWi D 8 ad (cellR cI ad) out w) args s 0 0 (AW 8 ad)) 5 D 8 ad (cellR cI ad) w 38 [(0, .ref (ad 0)), (1, .int x1), (2, .int x2), (4, .int x4)] [.int s0] := by
  unfold m_X8_isCaused_j38 at hf
  refine j_istore_n (lv' := [(0, .ref (ad 0)), (1, .int x1), (2, .int x2), (3, .int s0), (4, .int x4)]) X dX8_isCaused_38 rfl (by decide) rfl ?_
  refine j_iinc (v := (x4 + (nI 1))) (lv' := [(0, .ref (ad 0)), (1, .int x1), (2, .int x2), (3, .int s0), (4, .int (x4 + (nI 1)))]) X 4 dX8_isCaused_39 rfl rfl (by decide) rfl ?_
  refine j_goto (tgt := 5) X dX8_isCaused_42 (by decide) ?_
  exact hk_kc _ _ hf
set_option maxRecDepth 100000 in
set_option maxHeartbeats 4000000 in
theorem t_X8_isCaused_j37 (X : CX p rmX8_isCaused s m args c cX8_isCaused 5 RX8 wsX8_isCaused D (tR cI) 8 ad) (Y : RX meth (some .boolean)) {x1 : Int32} {x2 : Int32} {x4 : Int32} {w : Wd} {kc : Int32 → Int32 → Option (Int32)} {out : Int32} (hf : m_X8_isCaused_j37 x1 x2 x4 w kc = some out) (hk_kc : ∀ (y3 : Int32) (y4 : Int32), kc y3 y4 = some out → WJ p l e rmX8_isCaused s m args below meth c (MQ below (QWi D 8 ad (cellR cI ad) out w) args s 0 0 (AW 8 ad)) 5 D 8 ad (cellR cI ad) w 5 [(0, .ref (ad 0)), (1, .int x1), (2, .int x2), (3, .int y3), (4, .int y4)] []) : WJ p l e rmX8_isCaused s m args below meth c (MQ below (QWi D 8 ad (cellR cI ad) out w) args s 0 0 (AW 8 ad)) 5 D 8 ad (cellR cI ad) w 37 [(0, .ref (ad 0)), (1, .int x1), (2, .int x2), (4, .int x4)] [] := by
  unfold m_X8_isCaused_j37 at hf
  refine j_iconst X (v := (nI 0)) (by decide) dX8_isCaused_37 ?_
  exact t_X8_isCaused_j38 X Y hf hk_kc
set_option maxRecDepth 100000 in
set_option maxHeartbeats 4000000 in
theorem t_X8_isCaused_L5 (X : CX p rmX8_isCaused s m args c cX8_isCaused 5 RX8 wsX8_isCaused D (tR cI) 8 ad) (Y : RX meth (some .boolean)) {x1 : Int32} {x2 : Int32} {w : Wd} {out : Int32} : ∀ (n : Nat) (x3 : Int32) (x4 : Int32), m_X8_isCaused_L5 x1 x2 w n x3 x4 = some out → WJ p l e rmX8_isCaused s m args below meth c (MQ below (QWi D 8 ad (cellR cI ad) out w) args s 0 0 (AW 8 ad)) 5 D 8 ad (cellR cI ad) w 5 [(0, .ref (ad 0)), (1, .int x1), (2, .int x2), (3, .int x3), (4, .int x4)] [] := by
  intro n
  induction n with
  | zero => intro x3 x4 hf; exact f_n hf
  | succ n ih =>
    intro x3 x4 hf
    rw [m_X8_isCaused_L5] at hf
    refine j_iload X 4 dX8_isCaused_5 rfl ?_
    refine j_iconst X (v := (nI 4)) (by decide) dX8_isCaused_7 ?_
    refine j_icmp_ge (tgt := 45) X dX8_isCaused_8 (by decide) (fun c => ?_) (fun c => ?_)
    · replace hf := f_t c hf
      refine j_iload_n X 3 dX8_isCaused_45 rfl rfl ?_
      exact j_bret X Y (f_s hf) rfl dX8_isCaused_46
    replace hf := f_f c hf
    refine j_iload_n X 3 dX8_isCaused_11 rfl rfl ?_
    refine j_if_eq (tgt := 37) X dX8_isCaused_12 (by decide) (fun c => ?_) (fun c => ?_)
    · replace hf := f_t c hf
      refine j_sub [0, 1, 2, 4] rfl ?_
      exact t_X8_isCaused_j37 X Y hf ih
    replace hf := f_f c hf
    refine j_aload_n X 0 dX8_isCaused_15 rfl rfl ?_
    refine j_iload_n X 1 dX8_isCaused_16 rfl rfl ?_
    refine j_iload_n X 2 dX8_isCaused_17 rfl rfl ?_
    refine j_iload X 4 dX8_isCaused_18 rfl ?_
    obtain ⟨o1, ho1, hf⟩ := f_bd hf
    refine j_callVi X oMo rfl rfl [.int x1, .int x2, .int x4] (c_X8_causeOf X.2.2.2.2.2.2.2 ho1) (cwV 3 X.2.2.2.2.1 gX8_isCaused_X8_causeOf rfl rfl rfl (by decide +kernel) ⟨Nat.le_of_ble_eq_true rfl, Nat.le_of_ble_eq_true rfl⟩) rfl rfl (Nat.le_of_ble_eq_true rfl) dX8_isCaused_20 ?_
    refine j_aload_n X 0 dX8_isCaused_23 rfl rfl ?_
    refine j_get (ref := "ProxyVersionsModel") (index := 22) (v := .ref (ad 5)) X oMo inX8_isCaused_X8 rfl 6 (by decide) (List.mem_of_getElem? (i := 1) rfl) rfl rfl dX8_isCaused_24 ?_
    refine j_iload X 4 dX8_isCaused_27 rfl ?_
    obtain ⟨hi2, hf⟩ := f_c hf
    refine j_iald X 0 rfl r5 hi2 dX8_isCaused_29 ?_
    refine j_icmp_gt (tgt := 37) X dX8_isCaused_30 (by decide) (fun c => ?_) (fun c => ?_)
    · replace hf := f_t c hf
      refine j_sub [0, 1, 2, 4] rfl ?_
      exact t_X8_isCaused_j37 X Y hf ih
    replace hf := f_f c hf
    refine j_iconst X (v := (nI 1)) (by decide) dX8_isCaused_33 ?_
    refine j_goto (tgt := 38) X dX8_isCaused_34 (by decide) ?_
    refine j_sub [0, 1, 2, 4] rfl ?_
    exact t_X8_isCaused_j38 X Y hf ih
set_option maxRecDepth 100000 in
set_option maxHeartbeats 4000000 in
theorem c_X8_isCaused (hI : Inj 8 ad) {x1 : Int32} {x2 : Int32} {w : Wd} {out : Int32} (hf : m_X8_isCaused x1 x2 w = some out) : Met l yX8_isCaused wsX8_isCaused rmX8_isCaused (va_Pc [.ref (ad 0), .int x1, .int x2] (PW D (tR cI) 8 ad (cellR cI ad) w)) (QWi D 8 ad (cellR cI ad) out w) 0 0 (AW 8 ad) := by
  refine mk_met (maxL := 5) (ret := (some .boolean)) RX8 hI (by decide) rfl rfl (Nat.le_of_ble_eq_true rfl) rfl rfl (fun p e s m args below meth c X Y => ?_)
  unfold m_X8_isCaused at hf
  refine j_iconst X (v := (nI 1)) (by decide) dX8_isCaused_0 ?_
  refine j_istore_n (lv' := [(0, .ref (ad 0)), (1, .int x1), (2, .int x2), (3, .int (nI 1))]) X dX8_isCaused_1 rfl (by decide) rfl ?_
  refine j_iconst X (v := (nI 0)) (by decide) dX8_isCaused_2 ?_
  refine j_istore (lv' := [(0, .ref (ad 0)), (1, .int x1), (2, .int x2), (3, .int (nI 1)), (4, .int (nI 0))]) X dX8_isCaused_3 (by decide) rfl ?_
  refine t_X8_isCaused_L5 X Y _ _ _ hf
abbrev rmX8_serves : Room := { frames := 2, cells := 0, slots := 0, locals := 47 }
theorem inX8_serves_X8 : ∀ w ∈ wsX80, w ∈ wsX8_serves := fun _ h => List.mem_cons_of_mem _ (List.mem_append_right _ h)
set_option maxRecDepth 100000 in
set_option maxHeartbeats 4000000 in
theorem t_X8_serves_L14 (X : CX p rmX8_serves s m args c cX8_serves 5 RX8 wsX8_serves D (tR cI) 8 ad) (Y : RX meth none) {x1 : Int32} {x2 : Int32} {kx55 : Wd → Option (Wd)} {out : Wd} (hk_kx55 : ∀  (v : Wd), kx55 v = some out → WJ p l e rmX8_serves s m args below meth c (MQ below (QWv D 8 ad (cellR cI ad) out) args s 0 0 (AW 8 ad)) 5 D 8 ad (cellR cI ad) v 55 [(0, .ref (ad 0)), (1, .int x1), (2, .int x2)] []) : ∀ (n : Nat) (w : Wd), m_X8_serves_L14 x1 x2 kx55 n w = some out → WJ p l e rmX8_serves s m args below meth c (MQ below (QWv D 8 ad (cellR cI ad) out) args s 0 0 (AW 8 ad)) 5 D 8 ad (cellR cI ad) w 14 [(0, .ref (ad 0)), (1, .int x1), (2, .int x2)] [] := by
  intro n
  induction n with
  | zero => intro w hf; exact f_n hf
  | succ n ih =>
    intro w hf
    rw [m_X8_serves_L14] at hf
    refine j_aload_n X 0 dX8_serves_14 rfl rfl ?_
    refine j_get (ref := "ProxyVersionsModel") (index := 22) (v := .ref (ad 5)) X oMo inX8_serves_X8 rfl 6 (by decide) (List.mem_of_getElem? (i := 1) rfl) rfl rfl dX8_serves_15 ?_
    refine j_iload_n X 2 dX8_serves_18 rfl rfl ?_
    obtain ⟨hi1, hf⟩ := f_c hf
    refine j_iald X 0 rfl r5 hi1 dX8_serves_19 ?_
    refine j_bipush X (v := (nI 24)) (by decide) dX8_serves_20 ?_
    refine j_icmp_ge (tgt := 55) X dX8_serves_22 (by decide) (fun c => ?_) (fun c => ?_)
    · replace hf := f_t c hf
      exact hk_kx55 _ hf
    replace hf := f_f c hf
    refine j_aload_n X 0 dX8_serves_25 rfl rfl ?_
    refine j_iload_n X 1 dX8_serves_26 rfl rfl ?_
    refine j_iload_n X 2 dX8_serves_27 rfl rfl ?_
    refine j_aload_n X 0 dX8_serves_28 rfl rfl ?_
    refine j_get (ref := "ProxyVersionsModel") (index := 22) (v := .ref (ad 5)) X oMo inX8_serves_X8 rfl 6 (by decide) (List.mem_of_getElem? (i := 1) rfl) rfl rfl dX8_serves_29 ?_
    refine j_iload_n X 2 dX8_serves_32 rfl rfl ?_
    obtain ⟨hi2, hf⟩ := f_c hf
    refine j_iald X 0 rfl r5 hi2 dX8_serves_33 ?_
    refine j_iconst X (v := (nI 1)) (by decide) dX8_serves_34 ?_
    refine j_iadd X dX8_serves_35 ?_
    obtain ⟨o3, ho3, hf⟩ := f_bd hf
    refine j_callVi X oMo rfl rfl [.int x1, .int x2, .int ((w 5 x2.toNatClampNeg) + (nI 1))] (c_X8_knows X.2.2.2.2.2.2.2 ho3) (cwV 3 X.2.2.2.2.1 gX8_serves_X8_knows rfl rfl rfl (by decide +kernel) ⟨Nat.le_of_ble_eq_true rfl, Nat.le_of_ble_eq_true rfl⟩) rfl rfl (Nat.le_of_ble_eq_true rfl) dX8_serves_36 ?_
    refine j_if_eq (tgt := 55) X dX8_serves_39 (by decide) (fun c => ?_) (fun c => ?_)
    · replace hf := f_t c hf
      exact hk_kx55 _ hf
    replace hf := f_f c hf
    refine j_aload_n X 0 dX8_serves_42 rfl rfl ?_
    refine j_get (ref := "ProxyVersionsModel") (index := 22) (v := .ref (ad 5)) X oMo inX8_serves_X8 rfl 6 (by decide) (List.mem_of_getElem? (i := 1) rfl) rfl rfl dX8_serves_43 ?_
    refine j_iload_n X 2 dX8_serves_46 rfl rfl ?_
    refine j_dup2 X rfl rfl dX8_serves_47 ?_
    obtain ⟨hi4, hf⟩ := f_c hf
    refine j_iald X 0 rfl r5 hi4 dX8_serves_48 ?_
    refine j_iconst X (v := (nI 1)) (by decide) dX8_serves_49 ?_
    refine j_iadd X dX8_serves_50 ?_
    obtain ⟨hi5, hf⟩ := f_c hf
    obtain ⟨w6, ew6, hf⟩ := f_lt hf
    refine j_iast X 0 rfl r5 hi5 dX8_serves_51 ew6 ?_
    refine j_goto (tgt := 14) X dX8_serves_52 (by decide) ?_
    exact ih _ hf
set_option maxRecDepth 100000 in
set_option maxHeartbeats 4000000 in
theorem t_X8_serves_j55 (X : CX p rmX8_serves s m args c cX8_serves 5 RX8 wsX8_serves D (tR cI) 8 ad) (Y : RX meth none) {x1 : Int32} {x2 : Int32} {w : Wd} {kc : Int32 → Wd → Option (Wd)} {kx61 : Wd → Option (Wd)} {out : Wd} (hf : m_X8_serves_j55 x1 x2 w kc kx61 = some out) (hk_kc : ∀ (y2 : Int32) (v : Wd), kc y2 v = some out → WJ p l e rmX8_serves s m args below meth c (MQ below (QWv D 8 ad (cellR cI ad) out) args s 0 0 (AW 8 ad)) 5 D 8 ad (cellR cI ad) v 2 [(0, .ref (ad 0)), (1, .int x1), (2, .int y2)] []) (hk_kx61 : ∀  (v : Wd), kx61 v = some out → WJ p l e rmX8_serves s m args below meth c (MQ below (QWv D 8 ad (cellR cI ad) out) args s 0 0 (AW 8 ad)) 5 D 8 ad (cellR cI ad) v 61 [(0, .ref (ad 0))] []) : WJ p l e rmX8_serves s m args below meth c (MQ below (QWv D 8 ad (cellR cI ad) out) args s 0 0 (AW 8 ad)) 5 D 8 ad (cellR cI ad) w 55 [(0, .ref (ad 0)), (1, .int x1), (2, .int x2)] [] := by
  unfold m_X8_serves_j55 at hf
  refine j_iinc (v := (x2 + (nI 1))) (lv' := [(0, .ref (ad 0)), (1, .int x1), (2, .int (x2 + (nI 1)))]) X 2 dX8_serves_55 rfl rfl (by decide) rfl ?_
  refine j_goto (tgt := 2) X dX8_serves_58 (by decide) ?_
  exact hk_kc _ _ hf
set_option maxRecDepth 100000 in
set_option maxHeartbeats 4000000 in
theorem t_X8_serves_L2 (X : CX p rmX8_serves s m args c cX8_serves 5 RX8 wsX8_serves D (tR cI) 8 ad) (Y : RX meth none) {x1 : Int32} {kx61 : Wd → Option (Wd)} {out : Wd} (hk_kx61 : ∀  (v : Wd), kx61 v = some out → WJ p l e rmX8_serves s m args below meth c (MQ below (QWv D 8 ad (cellR cI ad) out) args s 0 0 (AW 8 ad)) 5 D 8 ad (cellR cI ad) v 61 [(0, .ref (ad 0))] []) : ∀ (n : Nat) (x2 : Int32) (w : Wd), m_X8_serves_L2 x1 kx61 n x2 w = some out → WJ p l e rmX8_serves s m args below meth c (MQ below (QWv D 8 ad (cellR cI ad) out) args s 0 0 (AW 8 ad)) 5 D 8 ad (cellR cI ad) w 2 [(0, .ref (ad 0)), (1, .int x1), (2, .int x2)] [] := by
  intro n
  induction n with
  | zero => intro x2 w hf; exact f_n hf
  | succ n ih =>
    intro x2 w hf
    rw [m_X8_serves_L2] at hf
    refine j_iload_n X 2 dX8_serves_2 rfl rfl ?_
    refine j_iconst X (v := (nI 4)) (by decide) dX8_serves_3 ?_
    refine j_icmp_ge (tgt := 61) X dX8_serves_4 (by decide) (fun c => ?_) (fun c => ?_)
    · replace hf := f_t c hf
      refine j_sub [0] rfl ?_
      exact hk_kx61 _ hf
    replace hf := f_f c hf
    refine j_aload_n X 0 dX8_serves_7 rfl rfl ?_
    refine j_get (ref := "ProxyVersionsModel") (index := 22) (v := .ref (ad 5)) X oMo inX8_serves_X8 rfl 6 (by decide) (List.mem_of_getElem? (i := 1) rfl) rfl rfl dX8_serves_8 ?_
    refine j_iload_n X 2 dX8_serves_11 rfl rfl ?_
    refine j_iconst X (v := (nI 0)) (by decide) dX8_serves_12 ?_
    obtain ⟨hi1, hf⟩ := f_c hf
    obtain ⟨w2, ew2, hf⟩ := f_lt hf
    refine j_iast X 0 rfl r5 hi1 dX8_serves_13 ew2 ?_
    refine t_X8_serves_L14 X Y ?_ _ _ hf
    intro w3 hf
    exact t_X8_serves_j55 X Y hf ih hk_kx61
set_option maxRecDepth 100000 in
set_option maxHeartbeats 4000000 in
theorem t_X8_serves_L79 (X : CX p rmX8_serves s m args c cX8_serves 5 RX8 wsX8_serves D (tR cI) 8 ad) (Y : RX meth none) {x2 : Int32} {x3 : Int32} {kx106 : Int32 → Wd → Option (Wd)} {out : Wd} (hk_kx106 : ∀ (y4 : Int32) (v : Wd), kx106 y4 v = some out → WJ p l e rmX8_serves s m args below meth c (MQ below (QWv D 8 ad (cellR cI ad) out) args s 0 0 (AW 8 ad)) 5 D 8 ad (cellR cI ad) v 106 [(0, .ref (ad 0)), (2, .int x2), (3, .int x3), (4, .int y4)] []) : ∀ (n : Nat) (x4 : Int32) (w : Wd), m_X8_serves_L79 x2 x3 kx106 n x4 w = some out → WJ p l e rmX8_serves s m args below meth c (MQ below (QWv D 8 ad (cellR cI ad) out) args s 0 0 (AW 8 ad)) 5 D 8 ad (cellR cI ad) w 79 [(0, .ref (ad 0)), (2, .int x2), (3, .int x3), (4, .int x4)] [] := by
  intro n
  induction n with
  | zero => intro x4 w hf; exact f_n hf
  | succ n ih =>
    intro x4 w hf
    rw [m_X8_serves_L79] at hf
    refine j_iload X 3 dX8_serves_79 rfl ?_
    refine j_aload_n X 0 dX8_serves_81 rfl rfl ?_
    refine j_get (ref := "ProxyVersionsModel") (index := 22) (v := .ref (ad 5)) X oMo inX8_serves_X8 rfl 6 (by decide) (List.mem_of_getElem? (i := 1) rfl) rfl rfl dX8_serves_82 ?_
    refine j_iload_n X 2 dX8_serves_85 rfl rfl ?_
    obtain ⟨hi1, hf⟩ := f_c hf
    refine j_iald X 0 rfl r5 hi1 dX8_serves_86 ?_
    refine j_icmp_gt (tgt := 106) X dX8_serves_87 (by decide) (fun c => ?_) (fun c => ?_)
    · replace hf := f_t c hf
      exact hk_kx106 _ _ hf
    replace hf := f_f c hf
    refine j_aload_n X 0 dX8_serves_90 rfl rfl ?_
    refine j_iload_n X 2 dX8_serves_91 rfl rfl ?_
    refine j_iload X 3 dX8_serves_92 rfl ?_
    obtain ⟨o2, ho2, hf⟩ := f_bd hf
    refine j_callVi X oMo rfl rfl [.int x3, .int x4] (c_X8_isCaused X.2.2.2.2.2.2.2 ho2) (cwV 2 X.2.2.2.2.1 gX8_serves_X8_isCaused rfl rfl rfl (by decide +kernel) ⟨Nat.le_of_ble_eq_true rfl, Nat.le_of_ble_eq_true rfl⟩) rfl rfl (Nat.le_of_ble_eq_true rfl) dX8_serves_94 ?_
    refine j_if_eq (tgt := 106) X dX8_serves_97 (by decide) (fun c => ?_) (fun c => ?_)
    · replace hf := f_t c hf
      exact hk_kx106 _ _ hf
    replace hf := f_f c hf
    refine j_iinc (v := (x4 + (nI 1))) (lv' := [(0, .ref (ad 0)), (2, .int x2), (3, .int x3), (4, .int (x4 + (nI 1)))]) X 3 dX8_serves_100 rfl rfl (by decide) rfl ?_
    refine j_goto (tgt := 79) X dX8_serves_103 (by decide) ?_
    exact ih _ _ hf
set_option maxRecDepth 100000 in
set_option maxHeartbeats 4000000 in
theorem t_X8_serves_j126 (X : CX p rmX8_serves s m args c cX8_serves 5 RX8 wsX8_serves D (tR cI) 8 ad) (Y : RX meth none) {x3 : Int32} {x4 : Int32} {s0 : Int32} {w : Wd} {kc : Int32 → Int32 → Wd → Option (Wd)} {kx143 : Int32 → Wd → Option (Wd)} {out : Wd} (hf : m_X8_serves_j126 x3 x4 s0 w kc kx143 = some out) (hk_kc : ∀ (y2 : Int32) (y3 : Int32) (v : Wd), kc y2 y3 v = some out → WJ p l e rmX8_serves s m args below meth c (MQ below (QWv D 8 ad (cellR cI ad) out) args s 0 0 (AW 8 ad)) 5 D 8 ad (cellR cI ad) v 71 [(0, .ref (ad 0)), (2, .int y2), (3, .int y3)] []) (hk_kx143 : ∀ (y2 : Int32) (v : Wd), kx143 y2 v = some out → WJ p l e rmX8_serves s m args below meth c (MQ below (QWv D 8 ad (cellR cI ad) out) args s 0 0 (AW 8 ad)) 5 D 8 ad (cellR cI ad) v 143 [(0, .ref (ad 0)), (2, .int y2)] []) : WJ p l e rmX8_serves s m args below meth c (MQ below (QWv D 8 ad (cellR cI ad) out) args s 0 0 (AW 8 ad)) 5 D 8 ad (cellR cI ad) w 126 [(0, .ref (ad 0)), (3, .int x3), (4, .int x4)] [.int s0] := by
  unfold m_X8_serves_j126 at hf
  refine j_istore_n (lv' := [(0, .ref (ad 0)), (2, .int s0), (3, .int x3), (4, .int x4)]) X dX8_serves_126 rfl (by decide) rfl ?_
  refine j_aload_n X 0 dX8_serves_127 rfl rfl ?_
  refine j_get (ref := "ProxyVersionsModel") (index := 22) (v := .ref (ad 5)) X oMo inX8_serves_X8 rfl 6 (by decide) (List.mem_of_getElem? (i := 1) rfl) rfl rfl dX8_serves_128 ?_
  refine j_iload_n X 2 dX8_serves_131 rfl rfl ?_
  refine j_iload X 3 dX8_serves_132 rfl ?_
  refine j_iconst X (v := (nI 1)) (by decide) dX8_serves_134 ?_
  refine j_isub X dX8_serves_135 ?_
  obtain ⟨hi1, hf⟩ := f_c hf
  obtain ⟨w2, ew2, hf⟩ := f_lt hf
  refine j_iast X 0 rfl r5 hi1 dX8_serves_136 ew2 ?_
  refine j_iinc (v := (x3 + (nI 1))) (lv' := [(0, .ref (ad 0)), (2, .int s0), (3, .int (x3 + (nI 1))), (4, .int x4)]) X 2 dX8_serves_137 rfl rfl (by decide) rfl ?_
  refine j_goto (tgt := 71) X dX8_serves_140 (by decide) ?_
  refine j_sub [0, 1, 2] rfl ?_
  exact hk_kc _ _ _ hf
set_option maxRecDepth 100000 in
set_option maxHeartbeats 4000000 in
theorem t_X8_serves_j121 (X : CX p rmX8_serves s m args c cX8_serves 5 RX8 wsX8_serves D (tR cI) 8 ad) (Y : RX meth none) {x3 : Int32} {x4 : Int32} {w : Wd} {kc : Int32 → Int32 → Wd → Option (Wd)} {kx143 : Int32 → Wd → Option (Wd)} {out : Wd} (hf : m_X8_serves_j121 x3 x4 w kc kx143 = some out) (hk_kc : ∀ (y2 : Int32) (y3 : Int32) (v : Wd), kc y2 y3 v = some out → WJ p l e rmX8_serves s m args below meth c (MQ below (QWv D 8 ad (cellR cI ad) out) args s 0 0 (AW 8 ad)) 5 D 8 ad (cellR cI ad) v 71 [(0, .ref (ad 0)), (2, .int y2), (3, .int y3)] []) (hk_kx143 : ∀ (y2 : Int32) (v : Wd), kx143 y2 v = some out → WJ p l e rmX8_serves s m args below meth c (MQ below (QWv D 8 ad (cellR cI ad) out) args s 0 0 (AW 8 ad)) 5 D 8 ad (cellR cI ad) v 143 [(0, .ref (ad 0)), (2, .int y2)] []) : WJ p l e rmX8_serves s m args below meth c (MQ below (QWv D 8 ad (cellR cI ad) out) args s 0 0 (AW 8 ad)) 5 D 8 ad (cellR cI ad) w 121 [(0, .ref (ad 0)), (3, .int x3), (4, .int x4)] [] := by
  unfold m_X8_serves_j121 at hf
  refine j_iconst X (v := (nI 1)) (by decide) dX8_serves_121 ?_
  refine j_goto (tgt := 126) X dX8_serves_122 (by decide) ?_
  exact t_X8_serves_j126 X Y hf hk_kc hk_kx143
set_option maxRecDepth 100000 in
set_option maxHeartbeats 4000000 in
theorem t_X8_serves_j106 (X : CX p rmX8_serves s m args c cX8_serves 5 RX8 wsX8_serves D (tR cI) 8 ad) (Y : RX meth none) {x2 : Int32} {x3 : Int32} {x4 : Int32} {w : Wd} {kc : Int32 → Int32 → Wd → Option (Wd)} {kx143 : Int32 → Wd → Option (Wd)} {out : Wd} (hf : m_X8_serves_j106 x2 x3 x4 w kc kx143 = some out) (hk_kc : ∀ (y2 : Int32) (y3 : Int32) (v : Wd), kc y2 y3 v = some out → WJ p l e rmX8_serves s m args below meth c (MQ below (QWv D 8 ad (cellR cI ad) out) args s 0 0 (AW 8 ad)) 5 D 8 ad (cellR cI ad) v 71 [(0, .ref (ad 0)), (2, .int y2), (3, .int y3)] []) (hk_kx143 : ∀ (y2 : Int32) (v : Wd), kx143 y2 v = some out → WJ p l e rmX8_serves s m args below meth c (MQ below (QWv D 8 ad (cellR cI ad) out) args s 0 0 (AW 8 ad)) 5 D 8 ad (cellR cI ad) v 143 [(0, .ref (ad 0)), (2, .int y2)] []) : WJ p l e rmX8_serves s m args below meth c (MQ below (QWv D 8 ad (cellR cI ad) out) args s 0 0 (AW 8 ad)) 5 D 8 ad (cellR cI ad) w 106 [(0, .ref (ad 0)), (2, .int x2), (3, .int x3), (4, .int x4)] [] := by
  unfold m_X8_serves_j106 at hf
  refine j_iload_n X 1 dX8_serves_106 rfl rfl ?_
  refine j_if_ne (tgt := 121) X dX8_serves_107 (by decide) (fun c => ?_) (fun c => ?_)
  · replace hf := f_t c hf
    refine j_sub [0, 2, 3] rfl ?_
    exact t_X8_serves_j121 X Y hf hk_kc hk_kx143
  replace hf := f_fn c hf
  refine j_iload X 3 dX8_serves_110 rfl ?_
  refine j_aload_n X 0 dX8_serves_112 rfl rfl ?_
  refine j_get (ref := "ProxyVersionsModel") (index := 22) (v := .ref (ad 5)) X oMo inX8_serves_X8 rfl 6 (by decide) (List.mem_of_getElem? (i := 1) rfl) rfl rfl dX8_serves_113 ?_
  refine j_iload_n X 2 dX8_serves_116 rfl rfl ?_
  obtain ⟨hi1, hf⟩ := f_c hf
  refine j_iald X 0 rfl r5 hi1 dX8_serves_117 ?_
  refine j_icmp_gt (tgt := 125) X dX8_serves_118 (by decide) (fun c => ?_) (fun c => ?_)
  · replace hf := f_t c hf
    refine j_iconst X (v := (nI 0)) (by decide) dX8_serves_125 ?_
    refine j_sub [0, 2, 3] rfl ?_
    exact t_X8_serves_j126 X Y hf hk_kc hk_kx143
  replace hf := f_f c hf
  refine j_sub [0, 2, 3] rfl ?_
  exact t_X8_serves_j121 X Y hf hk_kc hk_kx143
set_option maxRecDepth 100000 in
set_option maxHeartbeats 4000000 in
theorem t_X8_serves_L71 (X : CX p rmX8_serves s m args c cX8_serves 5 RX8 wsX8_serves D (tR cI) 8 ad) (Y : RX meth none) {kx143 : Int32 → Wd → Option (Wd)} {out : Wd} (hk_kx143 : ∀ (y2 : Int32) (v : Wd), kx143 y2 v = some out → WJ p l e rmX8_serves s m args below meth c (MQ below (QWv D 8 ad (cellR cI ad) out) args s 0 0 (AW 8 ad)) 5 D 8 ad (cellR cI ad) v 143 [(0, .ref (ad 0)), (2, .int y2)] []) : ∀ (n : Nat) (x2 : Int32) (x3 : Int32) (w : Wd), m_X8_serves_L71 kx143 n x2 x3 w = some out → WJ p l e rmX8_serves s m args below meth c (MQ below (QWv D 8 ad (cellR cI ad) out) args s 0 0 (AW 8 ad)) 5 D 8 ad (cellR cI ad) w 71 [(0, .ref (ad 0)), (2, .int x2), (3, .int x3)] [] := by
  intro n
  induction n with
  | zero => intro x2 x3 w hf; exact f_n hf
  | succ n ih =>
    intro x2 x3 w hf
    rw [m_X8_serves_L71] at hf
    refine j_iload_n X 2 dX8_serves_71 rfl rfl ?_
    refine j_iconst X (v := (nI 4)) (by decide) dX8_serves_72 ?_
    refine j_icmp_ge (tgt := 143) X dX8_serves_73 (by decide) (fun c => ?_) (fun c => ?_)
    · replace hf := f_t c hf
      refine j_sub [0, 1] rfl ?_
      exact hk_kx143 _ _ hf
    replace hf := f_f c hf
    refine j_iconst X (v := (nI 1)) (by decide) dX8_serves_76 ?_
    refine j_istore (lv' := [(0, .ref (ad 0)), (2, .int x2), (3, .int x3), (4, .int (nI 1))]) X dX8_serves_77 (by decide) rfl ?_
    refine t_X8_serves_L79 X Y ?_ _ _ _ hf
    intro x4_1 w2 hf
    exact t_X8_serves_j106 X Y hf ih hk_kx143
set_option maxRecDepth 100000 in
set_option maxHeartbeats 4000000 in
theorem t_X8_serves_L63 (X : CX p rmX8_serves s m args c cX8_serves 5 RX8 wsX8_serves D (tR cI) 8 ad) (Y : RX meth none) {out : Wd} : ∀ (n : Nat) (x2 : Int32) (w : Wd), m_X8_serves_L63 n x2 w = some out → WJ p l e rmX8_serves s m args below meth c (MQ below (QWv D 8 ad (cellR cI ad) out) args s 0 0 (AW 8 ad)) 5 D 8 ad (cellR cI ad) w 63 [(0, .ref (ad 0)), (2, .int x2)] [] := by
  intro n
  induction n with
  | zero => intro x2 w hf; exact f_n hf
  | succ n ih =>
    intro x2 w hf
    rw [m_X8_serves_L63] at hf
    refine j_iload_n X 1 dX8_serves_63 rfl rfl ?_
    refine j_if_eq (tgt := 146) X dX8_serves_64 (by decide) (fun c => ?_) (fun c => ?_)
    · replace hf := f_t c hf
      exact j_vret X Y (f_s hf) dX8_serves_146
    replace hf := f_f c hf
    refine j_iconst X (v := (nI 0)) (by decide) dX8_serves_67 ?_
    refine j_istore_n (lv' := [(0, .ref (ad 0)), (2, .int (nI 0))]) X dX8_serves_68 rfl (by decide) rfl ?_
    refine j_iconst X (v := (nI 0)) (by decide) dX8_serves_69 ?_
    refine j_istore_n (lv' := [(0, .ref (ad 0)), (2, .int (nI 0)), (3, .int (nI 0))]) X dX8_serves_70 rfl (by decide) rfl ?_
    refine t_X8_serves_L71 X Y ?_ _ _ _ _ hf
    intro x2_1 w2 hf
    refine j_goto (tgt := 63) X dX8_serves_143 (by decide) ?_
    exact ih _ _ hf
set_option maxRecDepth 100000 in
set_option maxHeartbeats 4000000 in
theorem c_X8_serves (hI : Inj 8 ad) {x1 : Int32} {w : Wd} {out : Wd} (hf : m_X8_serves x1 w = some out) : Met l yX8_serves wsX8_serves rmX8_serves (va_Pc [.ref (ad 0), .int x1] (PW D (tR cI) 8 ad (cellR cI ad) w)) (QWv D 8 ad (cellR cI ad) out) 0 0 (AW 8 ad) := by
  refine mk_met (maxL := 5) (ret := none) RX8 hI (by decide) rfl rfl (Nat.le_of_ble_eq_true rfl) rfl rfl (fun p e s m args below meth c X Y => ?_)
  unfold m_X8_serves at hf
  refine j_iconst X (v := (nI 0)) (by decide) dX8_serves_0 ?_
  refine j_istore_n (lv' := [(0, .ref (ad 0)), (1, .int x1), (2, .int (nI 0))]) X dX8_serves_1 rfl (by decide) rfl ?_
  refine t_X8_serves_L2 X Y ?_ _ _ _ hf
  intro w1 hf
  refine j_iconst X (v := (nI 1)) (by decide) dX8_serves_61 ?_
  refine j_istore_n (lv' := [(0, .ref (ad 0)), (2, .int (nI 1))]) X dX8_serves_62 rfl (by decide) rfl ?_
  refine t_X8_serves_L63 X Y _ _ _ hf
abbrev rmX8_depth : Room := { frames := 0, cells := 0, slots := 0, locals := 0 }
theorem inX8_depth_X8 : ∀ w ∈ wsX80, w ∈ wsX8_depth := fun _ h => List.mem_cons_of_mem _ (List.mem_append_right _ h)
set_option maxRecDepth 100000 in
set_option maxHeartbeats 4000000 in
theorem t_X8_depth_L4 (X : CX p rmX8_depth s m args c cX8_depth 4 RX8 wsX8_depth D (tR cI) 8 ad) (Y : RX meth (some .int)) {w : Wd} {out : Int32} : ∀ (n : Nat) (x2 : Int32) (x3 : Int32), m_X8_depth_L4 w n x2 x3 = some out → WJ p l e rmX8_depth s m args below meth c (MQ below (QWi D 8 ad (cellR cI ad) out w) args s 0 0 (AW 8 ad)) 4 D 8 ad (cellR cI ad) w 4 [(0, .ref (ad 0)), (2, .int x2), (3, .int x3)] [] := by
  intro n
  induction n with
  | zero => intro x2 x3 hf; exact f_n hf
  | succ n ih =>
    intro x2 x3 hf
    rw [m_X8_depth_L4] at hf
    refine j_iload_n X 2 dX8_depth_4 rfl rfl ?_
    refine j_if_le (tgt := 24) X dX8_depth_5 (by decide) (fun c => ?_) (fun c => ?_)
    · replace hf := f_t c hf
      refine j_iload_n X 1 dX8_depth_24 rfl rfl ?_
      exact j_iret X Y (f_s hf) rfl dX8_depth_25
    replace hf := f_f c hf
    refine j_aload_n X 0 dX8_depth_8 rfl rfl ?_
    refine j_get (ref := "ProxyVersionsModel") (index := 7) (v := .ref (ad 1)) X oMo inX8_depth_X8 rfl 0 (by decide) (List.mem_of_getElem? (i := 1) rfl) rfl rfl dX8_depth_9 ?_
    refine j_bipush X (v := (nI 7)) (by decide) dX8_depth_12 ?_
    refine j_iload_n X 2 dX8_depth_14 rfl rfl ?_
    refine j_iadd X dX8_depth_15 ?_
    obtain ⟨hi1, hf⟩ := f_c hf
    refine j_iald X 0 rfl r1 hi1 dX8_depth_16 ?_
    obtain ⟨x3_2, ex3_2, hf⟩ := f_lt hf
    refine j_top ex3_2 ?_
    refine j_istore_n (lv' := [(0, .ref (ad 0)), (2, .int x2), (3, .int x3_2)]) X dX8_depth_17 rfl (by decide) rfl ?_
    refine j_iinc (v := (x2 + (nI 1))) (lv' := [(0, .ref (ad 0)), (2, .int (x2 + (nI 1))), (3, .int x3_2)]) X 1 dX8_depth_18 rfl rfl (by decide) rfl ?_
    refine j_goto (tgt := 4) X dX8_depth_21 (by decide) ?_
    exact ih _ _ hf
set_option maxRecDepth 100000 in
set_option maxHeartbeats 4000000 in
theorem c_X8_depth (hI : Inj 8 ad) {x1 : Int32} {w : Wd} {out : Int32} (hf : m_X8_depth x1 w = some out) : Met l yX8_depth wsX8_depth rmX8_depth (va_Pc [.ref (ad 0), .int x1] (PW D (tR cI) 8 ad (cellR cI ad) w)) (QWi D 8 ad (cellR cI ad) out w) 0 0 (AW 8 ad) := by
  refine mk_met (maxL := 4) (ret := (some .int)) RX8 hI (by decide) rfl rfl (Nat.le_of_ble_eq_true rfl) rfl rfl (fun p e s m args below meth c X Y => ?_)
  unfold m_X8_depth at hf
  refine j_iconst X (v := (nI 0)) (by decide) dX8_depth_0 ?_
  refine j_istore_n (lv' := [(0, .ref (ad 0)), (1, .int x1), (2, .int (nI 0))]) X dX8_depth_1 rfl (by decide) rfl ?_
  refine j_iload_n X 1 dX8_depth_2 rfl rfl ?_
  refine j_istore_n (lv' := [(0, .ref (ad 0)), (1, .int x1), (2, .int (nI 0)), (3, .int x1)]) X dX8_depth_3 rfl (by decide) rfl ?_
  refine j_sub [0, 2, 3] rfl ?_
  refine t_X8_depth_L4 X Y _ _ _ hf
abbrev rmX8_children : Room := { frames := 0, cells := 0, slots := 0, locals := 0 }
theorem inX8_children_X8 : ∀ w ∈ wsX80, w ∈ wsX8_children := fun _ h => List.mem_cons_of_mem _ (List.mem_append_right _ h)
set_option maxRecDepth 100000 in
set_option maxHeartbeats 4000000 in
theorem t_X8_children_j33 (X : CX p rmX8_children s m args c cX8_children 4 RX8 wsX8_children D (tR cI) 8 ad) (Y : RX meth (some .int)) {x1 : Int32} {x3 : Int32} {s0 : Int32} {s1 : Int32} {w : Wd} {kc : Int32 → Int32 → Option (Int32)} {out : Int32} (hf : m_X8_children_j33 x1 x3 s0 s1 w kc = some out) (hk_kc : ∀ (y2 : Int32) (y3 : Int32), kc y2 y3 = some out → WJ p l e rmX8_children s m args below meth c (MQ below (QWi D 8 ad (cellR cI ad) out w) args s 0 0 (AW 8 ad)) 4 D 8 ad (cellR cI ad) w 4 [(0, .ref (ad 0)), (1, .int x1), (2, .int y2), (3, .int y3)] []) : WJ p l e rmX8_children s m args below meth c (MQ below (QWi D 8 ad (cellR cI ad) out w) args s 0 0 (AW 8 ad)) 4 D 8 ad (cellR cI ad) w 33 [(0, .ref (ad 0)), (1, .int x1), (3, .int x3)] [.int s1, .int s0] := by
  unfold m_X8_children_j33 at hf
  refine j_iadd X dX8_children_33 ?_
  obtain ⟨x2_1, ex2_1, hf⟩ := f_lt hf
  refine j_top ex2_1 ?_
  refine j_istore_n (lv' := [(0, .ref (ad 0)), (1, .int x1), (2, .int x2_1), (3, .int x3)]) X dX8_children_34 rfl (by decide) rfl ?_
  refine j_iinc (v := (x3 + (nI 1))) (lv' := [(0, .ref (ad 0)), (1, .int x1), (2, .int x2_1), (3, .int (x3 + (nI 1)))]) X 3 dX8_children_35 rfl rfl (by decide) rfl ?_
  refine j_goto (tgt := 4) X dX8_children_38 (by decide) ?_
  exact hk_kc _ _ hf
set_option maxRecDepth 100000 in
set_option maxHeartbeats 4000000 in
theorem t_X8_children_L4 (X : CX p rmX8_children s m args c cX8_children 4 RX8 wsX8_children D (tR cI) 8 ad) (Y : RX meth (some .int)) {x1 : Int32} {w : Wd} {out : Int32} : ∀ (n : Nat) (x2 : Int32) (x3 : Int32), m_X8_children_L4 x1 w n x2 x3 = some out → WJ p l e rmX8_children s m args below meth c (MQ below (QWi D 8 ad (cellR cI ad) out w) args s 0 0 (AW 8 ad)) 4 D 8 ad (cellR cI ad) w 4 [(0, .ref (ad 0)), (1, .int x1), (2, .int x2), (3, .int x3)] [] := by
  intro n
  induction n with
  | zero => intro x2 x3 hf; exact f_n hf
  | succ n ih =>
    intro x2 x3 hf
    rw [m_X8_children_L4] at hf
    refine j_iload_n X 3 dX8_children_4 rfl rfl ?_
    refine j_aload_n X 0 dX8_children_5 rfl rfl ?_
    refine j_get (ref := "ProxyVersionsModel") (index := 7) (v := .ref (ad 1)) X oMo inX8_children_X8 rfl 0 (by decide) (List.mem_of_getElem? (i := 1) rfl) rfl rfl dX8_children_6 ?_
    refine j_iconst X (v := (nI 0)) (by decide) dX8_children_9 ?_
    obtain ⟨hi1, hf⟩ := f_c hf
    refine j_iald X 0 rfl r1 hi1 dX8_children_10 ?_
    refine j_icmp_ge (tgt := 41) X dX8_children_11 (by decide) (fun c => ?_) (fun c => ?_)
    · replace hf := f_t c hf
      refine j_iload_n X 2 dX8_children_41 rfl rfl ?_
      exact j_iret X Y (f_s hf) rfl dX8_children_42
    replace hf := f_f c hf
    refine j_iload_n X 2 dX8_children_14 rfl rfl ?_
    refine j_aload_n X 0 dX8_children_15 rfl rfl ?_
    refine j_get (ref := "ProxyVersionsModel") (index := 7) (v := .ref (ad 1)) X oMo inX8_children_X8 rfl 0 (by decide) (List.mem_of_getElem? (i := 1) rfl) rfl rfl dX8_children_16 ?_
    refine j_bipush X (v := (nI 7)) (by decide) dX8_children_19 ?_
    refine j_iload_n X 3 dX8_children_21 rfl rfl ?_
    refine j_iadd X dX8_children_22 ?_
    obtain ⟨hi2, hf⟩ := f_c hf
    refine j_iald X 0 rfl r1 hi2 dX8_children_23 ?_
    refine j_iload_n X 1 dX8_children_24 rfl rfl ?_
    refine j_icmp_ne (tgt := 32) X dX8_children_25 (by decide) (fun c => ?_) (fun c => ?_)
    · replace hf := f_t c hf
      refine j_iconst X (v := (nI 0)) (by decide) dX8_children_32 ?_
      refine j_sub [0, 1, 3] rfl ?_
      exact t_X8_children_j33 X Y hf ih
    replace hf := f_fn c hf
    refine j_iconst X (v := (nI 1)) (by decide) dX8_children_28 ?_
    refine j_goto (tgt := 33) X dX8_children_29 (by decide) ?_
    refine j_sub [0, 1, 3] rfl ?_
    exact t_X8_children_j33 X Y hf ih
set_option maxRecDepth 100000 in
set_option maxHeartbeats 4000000 in
theorem c_X8_children (hI : Inj 8 ad) {x1 : Int32} {w : Wd} {out : Int32} (hf : m_X8_children x1 w = some out) : Met l yX8_children wsX8_children rmX8_children (va_Pc [.ref (ad 0), .int x1] (PW D (tR cI) 8 ad (cellR cI ad) w)) (QWi D 8 ad (cellR cI ad) out w) 0 0 (AW 8 ad) := by
  refine mk_met (maxL := 4) (ret := (some .int)) RX8 hI (by decide) rfl rfl (Nat.le_of_ble_eq_true rfl) rfl rfl (fun p e s m args below meth c X Y => ?_)
  unfold m_X8_children at hf
  refine j_iconst X (v := (nI 0)) (by decide) dX8_children_0 ?_
  refine j_istore_n (lv' := [(0, .ref (ad 0)), (1, .int x1), (2, .int (nI 0))]) X dX8_children_1 rfl (by decide) rfl ?_
  refine j_iconst X (v := (nI 1)) (by decide) dX8_children_2 ?_
  refine j_istore_n (lv' := [(0, .ref (ad 0)), (1, .int x1), (2, .int (nI 0)), (3, .int (nI 1))]) X dX8_children_3 rfl (by decide) rfl ?_
  refine t_X8_children_L4 X Y _ _ _ hf
abbrev rmX8_sumOf : Room := { frames := 3, cells := 0, slots := 0, locals := 71 }
theorem inX8_sumOf_X8 : ∀ w ∈ wsX80, w ∈ wsX8_sumOf := fun _ h => List.mem_cons_of_mem _ (List.mem_append_right _ h)
set_option maxRecDepth 100000 in
set_option maxHeartbeats 4000000 in
theorem t_X8_sumOf_j86 (X : CX p rmX8_sumOf s m args c cX8_sumOf 6 RX8 wsX8_sumOf D (tR cI) 8 ad) (Y : RX meth (some .int)) {x1 : Int32} {x2 : Int32} {x4 : Int32} {s0 : Int32} {s1 : Int32} {w : Wd} {kc : Int32 → Int32 → Wd → Option (Int32 × Wd)} {out : Int32 × Wd} (hf : m_X8_sumOf_j86 x1 x2 x4 s0 s1 w kc = some out) (hk_kc : ∀ (y3 : Int32) (y4 : Int32) (v : Wd), kc y3 y4 v = some out → WJ p l e rmX8_sumOf s m args below meth c (MQ below (QWi D 8 ad (cellR cI ad) out.1 out.2) args s 0 0 (AW 8 ad)) 6 D 8 ad (cellR cI ad) v 10 [(0, .ref (ad 0)), (1, .int x1), (2, .int x2), (3, .int y3), (4, .int y4)] []) : WJ p l e rmX8_sumOf s m args below meth c (MQ below (QWi D 8 ad (cellR cI ad) out.1 out.2) args s 0 0 (AW 8 ad)) 6 D 8 ad (cellR cI ad) w 86 [(0, .ref (ad 0)), (1, .int x1), (2, .int x2), (4, .int x4)] [.int s1, .int s0] := by
  unfold m_X8_sumOf_j86 at hf
  refine j_iadd X dX8_sumOf_86 ?_
  obtain ⟨x3_1, ex3_1, hf⟩ := f_lt hf
  refine j_top ex3_1 ?_
  refine j_istore_n (lv' := [(0, .ref (ad 0)), (1, .int x1), (2, .int x2), (3, .int x3_1), (4, .int x4)]) X dX8_sumOf_87 rfl (by decide) rfl ?_
  refine j_iinc (v := (x4 + (nI 1))) (lv' := [(0, .ref (ad 0)), (1, .int x1), (2, .int x2), (3, .int x3_1), (4, .int (x4 + (nI 1)))]) X 4 dX8_sumOf_88 rfl rfl (by decide) rfl ?_
  refine j_goto (tgt := 10) X dX8_sumOf_91 (by decide) ?_
  exact hk_kc _ _ _ hf
set_option maxRecDepth 100000 in
set_option maxHeartbeats 4000000 in
theorem t_X8_sumOf_j72 (X : CX p rmX8_sumOf s m args c cX8_sumOf 6 RX8 wsX8_sumOf D (tR cI) 8 ad) (Y : RX meth (some .int)) {x1 : Int32} {x2 : Int32} {x4 : Int32} {s0 : Int32} {s1 : Int32} {s2 : Int32} {w : Wd} {kc : Int32 → Int32 → Wd → Option (Int32 × Wd)} {out : Int32 × Wd} (hf : m_X8_sumOf_j72 x1 x2 x4 s0 s1 s2 w kc = some out) (hk_kc : ∀ (y3 : Int32) (y4 : Int32) (v : Wd), kc y3 y4 v = some out → WJ p l e rmX8_sumOf s m args below meth c (MQ below (QWi D 8 ad (cellR cI ad) out.1 out.2) args s 0 0 (AW 8 ad)) 6 D 8 ad (cellR cI ad) v 10 [(0, .ref (ad 0)), (1, .int x1), (2, .int x2), (3, .int y3), (4, .int y4)] []) : WJ p l e rmX8_sumOf s m args below meth c (MQ below (QWi D 8 ad (cellR cI ad) out.1 out.2) args s 0 0 (AW 8 ad)) 6 D 8 ad (cellR cI ad) w 72 [(0, .ref (ad 0)), (1, .int x1), (2, .int x2), (4, .int x4)] [.int s2, .int s1, .int s0] := by
  unfold m_X8_sumOf_j72 at hf
  refine j_iadd X dX8_sumOf_72 ?_
  refine j_goto (tgt := 86) X dX8_sumOf_73 (by decide) ?_
  exact t_X8_sumOf_j86 X Y hf hk_kc
set_option maxRecDepth 100000 in
set_option maxHeartbeats 4000000 in
theorem t_X8_sumOf_L10 (X : CX p rmX8_sumOf s m args c cX8_sumOf 6 RX8 wsX8_sumOf D (tR cI) 8 ad) (Y : RX meth (some .int)) {x1 : Int32} {x2 : Int32} {out : Int32 × Wd} : ∀ (n : Nat) (x3 : Int32) (x4 : Int32) (w : Wd), m_X8_sumOf_L10 x1 x2 n x3 x4 w = some out → WJ p l e rmX8_sumOf s m args below meth c (MQ below (QWi D 8 ad (cellR cI ad) out.1 out.2) args s 0 0 (AW 8 ad)) 6 D 8 ad (cellR cI ad) w 10 [(0, .ref (ad 0)), (1, .int x1), (2, .int x2), (3, .int x3), (4, .int x4)] [] := by
  intro n
  induction n with
  | zero => intro x3 x4 w hf; exact f_n hf
  | succ n ih =>
    intro x3 x4 w hf
    rw [m_X8_sumOf_L10] at hf
    refine j_iload X 4 dX8_sumOf_10 rfl ?_
    refine j_iconst X (v := (nI 4)) (by decide) dX8_sumOf_12 ?_
    refine j_icmp_ge (tgt := 94) X dX8_sumOf_13 (by decide) (fun c => ?_) (fun c => ?_)
    · replace hf := f_t c hf
      refine j_iload_n X 3 dX8_sumOf_94 rfl rfl ?_
      exact j_iret X Y (f_p1 hf) (f_p2 hf) dX8_sumOf_95
    replace hf := f_f c hf
    refine j_aload_n X 0 dX8_sumOf_16 rfl rfl ?_
    refine j_iload_n X 1 dX8_sumOf_17 rfl rfl ?_
    refine j_iload X 4 dX8_sumOf_18 rfl ?_
    obtain ⟨o1, ho1, hf⟩ := f_bd hf
    refine j_callVi X oMo rfl rfl [.int x1, .int x4] (c_X8_knownMany X.2.2.2.2.2.2.2 ho1) (cwV 2 X.2.2.2.2.1 gX8_sumOf_X8_knownMany rfl rfl rfl (by decide +kernel) ⟨Nat.le_of_ble_eq_true rfl, Nat.le_of_ble_eq_true rfl⟩) rfl rfl (Nat.le_of_ble_eq_true rfl) dX8_sumOf_20 ?_
    refine j_istore (lv' := [(0, .ref (ad 0)), (1, .int x1), (2, .int x2), (3, .int x3), (4, .int x4), (5, .int o1)]) X dX8_sumOf_23 (by decide) rfl ?_
    refine j_iload_n X 3 dX8_sumOf_25 rfl rfl ?_
    refine j_iload_n X 2 dX8_sumOf_26 rfl rfl ?_
    refine j_if_ne (tgt := 35) X dX8_sumOf_27 (by decide) (fun c => ?_) (fun c => ?_)
    · replace hf := f_t c hf
      refine j_iload_n X 2 dX8_sumOf_35 rfl rfl ?_
      refine j_iconst X (v := (nI 1)) (by decide) dX8_sumOf_36 ?_
      refine j_icmp_ne (tgt := 50) X dX8_sumOf_37 (by decide) (fun c => ?_) (fun c => ?_)
      · replace hf := f_t c hf
        refine j_iload_n X 2 dX8_sumOf_50 rfl rfl ?_
        refine j_iconst X (v := (nI 2)) (by decide) dX8_sumOf_51 ?_
        refine j_icmp_ne (tgt := 76) X dX8_sumOf_52 (by decide) (fun c => ?_) (fun c => ?_)
        · replace hf := f_t c hf
          refine j_aload_n X 0 dX8_sumOf_76 rfl rfl ?_
          refine j_iload_n X 1 dX8_sumOf_77 rfl rfl ?_
          refine j_iload X 4 dX8_sumOf_78 rfl ?_
          obtain ⟨o2, ho2, hf⟩ := f_bd hf
          refine j_callVi X oMo rfl rfl [.int x1, .int x4] (c_X8_boundOf X.2.2.2.2.2.2.2 ho2) (cwV 2 X.2.2.2.2.1 gX8_sumOf_X8_boundOf rfl rfl rfl (by decide +kernel) ⟨Nat.le_of_ble_eq_true rfl, Nat.le_of_ble_eq_true rfl⟩) rfl rfl (Nat.le_of_ble_eq_true rfl) dX8_sumOf_80 ?_
          refine j_iload X 5 dX8_sumOf_83 rfl ?_
          refine j_isub X dX8_sumOf_85 ?_
          refine j_sub [0, 1, 2, 4] rfl ?_
          exact t_X8_sumOf_j86 X Y hf ih
        replace hf := f_fn c hf
        refine j_aload_n X 0 dX8_sumOf_55 rfl rfl ?_
        refine j_iload_n X 1 dX8_sumOf_56 rfl rfl ?_
        refine j_iload X 4 dX8_sumOf_57 rfl ?_
        obtain ⟨o3, ho3, hf⟩ := f_bd hf
        refine j_callVi X oMo rfl rfl [.int x1, .int x4] (c_X8_rangesOf X.2.2.2.2.2.2.2 ho3) (cwV 2 X.2.2.2.2.1 gX8_sumOf_X8_rangesOf rfl rfl rfl (by decide +kernel) ⟨Nat.le_of_ble_eq_true rfl, Nat.le_of_ble_eq_true rfl⟩) rfl rfl (Nat.le_of_ble_eq_true rfl) dX8_sumOf_59 ?_
        refine j_iload X 5 dX8_sumOf_62 rfl ?_
        refine j_if_le (tgt := 71) X dX8_sumOf_64 (by decide) (fun c => ?_) (fun c => ?_)
        · replace hf := f_t c hf
          refine j_iconst X (v := (nI 0)) (by decide) dX8_sumOf_71 ?_
          refine j_sub [0, 1, 2, 4] rfl ?_
          exact t_X8_sumOf_j72 X Y hf ih
        replace hf := f_f c hf
        refine j_iconst X (v := (nI 1)) (by decide) dX8_sumOf_67 ?_
        refine j_goto (tgt := 72) X dX8_sumOf_68 (by decide) ?_
        refine j_sub [0, 1, 2, 4] rfl ?_
        exact t_X8_sumOf_j72 X Y hf ih
      replace hf := f_fn c hf
      refine j_aload_n X 0 dX8_sumOf_40 rfl rfl ?_
      refine j_get (ref := "ProxyVersionsModel") (index := 22) (v := .ref (ad 5)) X oMo inX8_sumOf_X8 rfl 6 (by decide) (List.mem_of_getElem? (i := 1) rfl) rfl rfl dX8_sumOf_41 ?_
      refine j_iload X 4 dX8_sumOf_44 rfl ?_
      obtain ⟨hi4, hf⟩ := f_c hf
      refine j_iald X 0 rfl r5 hi4 dX8_sumOf_46 ?_
      refine j_goto (tgt := 86) X dX8_sumOf_47 (by decide) ?_
      refine j_sub [0, 1, 2, 4] rfl ?_
      exact t_X8_sumOf_j86 X Y hf ih
    replace hf := f_fn c hf
    refine j_iload X 5 dX8_sumOf_30 rfl ?_
    refine j_goto (tgt := 86) X dX8_sumOf_32 (by decide) ?_
    refine j_sub [0, 1, 2, 4] rfl ?_
    exact t_X8_sumOf_j86 X Y hf ih
set_option maxRecDepth 100000 in
set_option maxHeartbeats 4000000 in
theorem c_X8_sumOf (hI : Inj 8 ad) {x1 : Int32} {x2 : Int32} {w : Wd} {out : Int32 × Wd} (hf : m_X8_sumOf x1 x2 w = some out) : Met l yX8_sumOf wsX8_sumOf rmX8_sumOf (va_Pc [.ref (ad 0), .int x1, .int x2] (PW D (tR cI) 8 ad (cellR cI ad) w)) (QWi D 8 ad (cellR cI ad) out.1 out.2) 0 0 (AW 8 ad) := by
  refine mk_met (maxL := 6) (ret := (some .int)) RX8 hI (by decide) rfl rfl (Nat.le_of_ble_eq_true rfl) rfl rfl (fun p e s m args below meth c X Y => ?_)
  unfold m_X8_sumOf at hf
  refine j_aload_n X 0 dX8_sumOf_0 rfl rfl ?_
  refine j_iload_n X 1 dX8_sumOf_1 rfl rfl ?_
  obtain ⟨o1, ho1, hf⟩ := f_bd hf
  refine j_callVv X oMo rfl rfl [.int x1] (c_X8_serves X.2.2.2.2.2.2.2 ho1) (cwV 1 X.2.2.2.2.1 gX8_sumOf_X8_serves rfl rfl rfl (by decide +kernel) ⟨Nat.le_of_ble_eq_true rfl, Nat.le_of_ble_eq_true rfl⟩) rfl rfl (Nat.le_of_ble_eq_true rfl) dX8_sumOf_2 ?_
  refine j_iconst X (v := (nI 0)) (by decide) dX8_sumOf_5 ?_
  refine j_istore_n (lv' := [(0, .ref (ad 0)), (1, .int x1), (2, .int x2), (3, .int (nI 0))]) X dX8_sumOf_6 rfl (by decide) rfl ?_
  refine j_iconst X (v := (nI 0)) (by decide) dX8_sumOf_7 ?_
  refine j_istore (lv' := [(0, .ref (ad 0)), (1, .int x1), (2, .int x2), (3, .int (nI 0)), (4, .int (nI 0))]) X dX8_sumOf_8 (by decide) rfl ?_
  refine t_X8_sumOf_L10 X Y _ _ _ _ hf
abbrev rmX8_proxy : Room := { frames := 4, cells := 0, slots := 0, locals := 96 }
theorem inX8_proxy_X8 : ∀ w ∈ wsX80, w ∈ wsX8_proxy := fun _ h => List.mem_cons_of_mem _ (List.mem_append_right _ h)
set_option maxRecDepth 100000 in
set_option maxHeartbeats 4000000 in
theorem c_X8_proxy (hI : Inj 8 ad) {x1 : Int32} {x2 : Int32} {w : Wd} {out : Int32 × Wd} (hf : m_X8_proxy x1 x2 w = some out) : Met l yX8_proxy wsX8_proxy rmX8_proxy (va_Pc [.ref (ad 0), .int x1, .int x2] (PW D (tR cI) 8 ad (cellR cI ad) w)) (QWi D 8 ad (cellR cI ad) out.1 out.2) 0 0 (AW 8 ad) := by
  refine mk_met (maxL := 3) (ret := (some .int)) RX8 hI (by decide) rfl rfl (Nat.le_of_ble_eq_true rfl) rfl rfl (fun p e s m args below meth c X Y => ?_)
  unfold m_X8_proxy at hf
  refine j_aload_n X 0 dX8_proxy_0 rfl rfl ?_
  refine j_iload_n X 1 dX8_proxy_1 rfl rfl ?_
  obtain ⟨o1, ho1, hf⟩ := f_bd hf
  refine j_callVi X oMo rfl rfl [.int x1] (c_X8_isProxy X.2.2.2.2.2.2.2 ho1) (cwV 1 X.2.2.2.2.1 gX8_proxy_X8_isProxy rfl rfl rfl (by decide +kernel) ⟨Nat.le_of_ble_eq_true rfl, Nat.le_of_ble_eq_true rfl⟩) rfl rfl (Nat.le_of_ble_eq_true rfl) dX8_proxy_2 ?_
  refine j_if_ne (tgt := 10) X dX8_proxy_5 (by decide) (fun c => ?_) (fun c => ?_)
  · replace hf := f_t c hf
    refine j_iload_n X 2 dX8_proxy_10 rfl rfl ?_
    by_cases c_0 : x2 = (nI 0)
    · replace hf := f_t c_0 hf
      refine j_tin (tgt := 56) (off := 45) X dX8_proxy_11 (by rw [c_0]; decide) (by rw [c_0]; decide) (by rw [c_0]; decide) (by decide) ?_
      refine j_aload_n X 0 dX8_proxy_56 rfl rfl ?_
      refine j_get (ref := "ProxyVersionsModel") (index := 7) (v := .ref (ad 1)) X oMo inX8_proxy_X8 rfl 0 (by decide) (List.mem_of_getElem? (i := 1) rfl) rfl rfl dX8_proxy_57 ?_
      refine j_bipush X (v := (nI 7)) (by decide) dX8_proxy_60 ?_
      refine j_iload_n X 1 dX8_proxy_62 rfl rfl ?_
      refine j_iadd X dX8_proxy_63 ?_
      obtain ⟨hi2, hf⟩ := f_c hf
      refine j_iald X 0 rfl r1 hi2 dX8_proxy_64 ?_
      exact j_iret X Y (f_p1 hf) (f_p2 hf) dX8_proxy_65
    replace hf := f_f c_0 hf
    by_cases c_1 : x2 = (nI 1)
    · replace hf := f_t c_1 hf
      refine j_tin (tgt := 66) (off := 55) X dX8_proxy_11 (by rw [c_1]; decide) (by rw [c_1]; decide) (by rw [c_1]; decide) (by decide) ?_
      refine j_aload_n X 0 dX8_proxy_66 rfl rfl ?_
      refine j_iload_n X 1 dX8_proxy_67 rfl rfl ?_
      obtain ⟨o3, ho3, hf⟩ := f_bd hf
      refine j_callVi X oMo rfl rfl [.int x1] (c_X8_depth X.2.2.2.2.2.2.2 ho3) (cwV 1 X.2.2.2.2.1 gX8_proxy_X8_depth rfl rfl rfl (by decide +kernel) ⟨Nat.le_of_ble_eq_true rfl, Nat.le_of_ble_eq_true rfl⟩) rfl rfl (Nat.le_of_ble_eq_true rfl) dX8_proxy_68 ?_
      exact j_iret X Y (f_p1 hf) (f_p2 hf) dX8_proxy_71
    replace hf := f_f c_1 hf
    by_cases c_2 : x2 = (nI 2)
    · replace hf := f_t c_2 hf
      refine j_tin (tgt := 72) (off := 61) X dX8_proxy_11 (by rw [c_2]; decide) (by rw [c_2]; decide) (by rw [c_2]; decide) (by decide) ?_
      refine j_aload_n X 0 dX8_proxy_72 rfl rfl ?_
      refine j_iload_n X 1 dX8_proxy_73 rfl rfl ?_
      obtain ⟨o4, ho4, hf⟩ := f_bd hf
      refine j_callVi X oMo rfl rfl [.int x1] (c_X8_children X.2.2.2.2.2.2.2 ho4) (cwV 1 X.2.2.2.2.1 gX8_proxy_X8_children rfl rfl rfl (by decide +kernel) ⟨Nat.le_of_ble_eq_true rfl, Nat.le_of_ble_eq_true rfl⟩) rfl rfl (Nat.le_of_ble_eq_true rfl) dX8_proxy_74 ?_
      exact j_iret X Y (f_p1 hf) (f_p2 hf) dX8_proxy_77
    replace hf := f_f c_2 hf
    by_cases c_3 : x2 = (nI 3)
    · replace hf := f_t c_3 hf
      refine j_tin (tgt := 78) (off := 67) X dX8_proxy_11 (by rw [c_3]; decide) (by rw [c_3]; decide) (by rw [c_3]; decide) (by decide) ?_
      refine j_aload_n X 0 dX8_proxy_78 rfl rfl ?_
      refine j_iload_n X 1 dX8_proxy_79 rfl rfl ?_
      refine j_iconst X (v := (nI 0)) (by decide) dX8_proxy_80 ?_
      obtain ⟨o5, ho5, hf⟩ := f_bd hf
      refine j_callVi X oMo rfl rfl [.int x1, .int (nI 0)] (c_X8_sumOf X.2.2.2.2.2.2.2 ho5) (cwV 2 X.2.2.2.2.1 gX8_proxy_X8_sumOf rfl rfl rfl (by decide +kernel) ⟨Nat.le_of_ble_eq_true rfl, Nat.le_of_ble_eq_true rfl⟩) rfl rfl (Nat.le_of_ble_eq_true rfl) dX8_proxy_81 ?_
      exact j_iret X Y (f_p1 hf) (f_p2 hf) dX8_proxy_84
    replace hf := f_f c_3 hf
    by_cases c_4 : x2 = (nI 4)
    · replace hf := f_t c_4 hf
      refine j_tin (tgt := 85) (off := 74) X dX8_proxy_11 (by rw [c_4]; decide) (by rw [c_4]; decide) (by rw [c_4]; decide) (by decide) ?_
      refine j_aload_n X 0 dX8_proxy_85 rfl rfl ?_
      refine j_iload_n X 1 dX8_proxy_86 rfl rfl ?_
      refine j_iconst X (v := (nI 1)) (by decide) dX8_proxy_87 ?_
      obtain ⟨o6, ho6, hf⟩ := f_bd hf
      refine j_callVi X oMo rfl rfl [.int x1, .int (nI 1)] (c_X8_sumOf X.2.2.2.2.2.2.2 ho6) (cwV 2 X.2.2.2.2.1 gX8_proxy_X8_sumOf rfl rfl rfl (by decide +kernel) ⟨Nat.le_of_ble_eq_true rfl, Nat.le_of_ble_eq_true rfl⟩) rfl rfl (Nat.le_of_ble_eq_true rfl) dX8_proxy_88 ?_
      exact j_iret X Y (f_p1 hf) (f_p2 hf) dX8_proxy_91
    replace hf := f_f c_4 hf
    by_cases c_5 : x2 = (nI 5)
    · replace hf := f_t c_5 hf
      refine j_tin (tgt := 92) (off := 81) X dX8_proxy_11 (by rw [c_5]; decide) (by rw [c_5]; decide) (by rw [c_5]; decide) (by decide) ?_
      refine j_aload_n X 0 dX8_proxy_92 rfl rfl ?_
      refine j_get (ref := "ProxyVersionsModel") (index := 7) (v := .ref (ad 1)) X oMo inX8_proxy_X8 rfl 0 (by decide) (List.mem_of_getElem? (i := 1) rfl) rfl rfl dX8_proxy_93 ?_
      refine j_sipush X (v := (nI 439)) (by decide) dX8_proxy_96 ?_
      refine j_iload_n X 1 dX8_proxy_99 rfl rfl ?_
      refine j_iadd X dX8_proxy_100 ?_
      obtain ⟨hi7, hf⟩ := f_c hf
      refine j_iald X 0 rfl r1 hi7 dX8_proxy_101 ?_
      exact j_iret X Y (f_p1 hf) (f_p2 hf) dX8_proxy_102
    replace hf := f_f c_5 hf
    by_cases c_6 : x2 = (nI 6)
    · replace hf := f_t c_6 hf
      refine j_tin (tgt := 103) (off := 92) X dX8_proxy_11 (by rw [c_6]; decide) (by rw [c_6]; decide) (by rw [c_6]; decide) (by decide) ?_
      refine j_aload_n X 0 dX8_proxy_103 rfl rfl ?_
      refine j_iload_n X 1 dX8_proxy_104 rfl rfl ?_
      refine j_iconst X (v := (nI 2)) (by decide) dX8_proxy_105 ?_
      obtain ⟨o8, ho8, hf⟩ := f_bd hf
      refine j_callVi X oMo rfl rfl [.int x1, .int (nI 2)] (c_X8_sumOf X.2.2.2.2.2.2.2 ho8) (cwV 2 X.2.2.2.2.1 gX8_proxy_X8_sumOf rfl rfl rfl (by decide +kernel) ⟨Nat.le_of_ble_eq_true rfl, Nat.le_of_ble_eq_true rfl⟩) rfl rfl (Nat.le_of_ble_eq_true rfl) dX8_proxy_106 ?_
      exact j_iret X Y (f_p1 hf) (f_p2 hf) dX8_proxy_109
    replace hf := f_f c_6 hf
    by_cases c_7 : x2 = (nI 7)
    · replace hf := f_t c_7 hf
      refine j_tin (tgt := 110) (off := 99) X dX8_proxy_11 (by rw [c_7]; decide) (by rw [c_7]; decide) (by rw [c_7]; decide) (by decide) ?_
      refine j_aload_n X 0 dX8_proxy_110 rfl rfl ?_
      refine j_iload_n X 1 dX8_proxy_111 rfl rfl ?_
      refine j_iconst X (v := (nI 3)) (by decide) dX8_proxy_112 ?_
      obtain ⟨o9, ho9, hf⟩ := f_bd hf
      refine j_callVi X oMo rfl rfl [.int x1, .int (nI 3)] (c_X8_sumOf X.2.2.2.2.2.2.2 ho9) (cwV 2 X.2.2.2.2.1 gX8_proxy_X8_sumOf rfl rfl rfl (by decide +kernel) ⟨Nat.le_of_ble_eq_true rfl, Nat.le_of_ble_eq_true rfl⟩) rfl rfl (Nat.le_of_ble_eq_true rfl) dX8_proxy_113 ?_
      exact j_iret X Y (f_p1 hf) (f_p2 hf) dX8_proxy_116
    replace hf := f_f c_7 hf
    have hsw : (x2).toInt < 0 ∨ 7 < (x2).toInt := by
      rcases Int.lt_or_le (x2).toInt 0 with h | h
      · exact Or.inl h
      rcases Int.lt_or_le 7 (x2).toInt with h2 | h2
      · exact Or.inr h2
      exfalso
      have h3 : (x2).toInt = 0 ∨ (x2).toInt = 1 ∨ (x2).toInt = 2 ∨ (x2).toInt = 3 ∨ (x2).toInt = 4 ∨ (x2).toInt = 5 ∨ (x2).toInt = 6 ∨ (x2).toInt = 7 := by omega
      rcases h3 with h3 | h3 | h3 | h3 | h3 | h3 | h3 | h3
      · exact c_0 (Int32.toInt_inj.mp (h3.trans (by decide)))
      · exact c_1 (Int32.toInt_inj.mp (h3.trans (by decide)))
      · exact c_2 (Int32.toInt_inj.mp (h3.trans (by decide)))
      · exact c_3 (Int32.toInt_inj.mp (h3.trans (by decide)))
      · exact c_4 (Int32.toInt_inj.mp (h3.trans (by decide)))
      · exact c_5 (Int32.toInt_inj.mp (h3.trans (by decide)))
      · exact c_6 (Int32.toInt_inj.mp (h3.trans (by decide)))
      · exact c_7 (Int32.toInt_inj.mp (h3.trans (by decide)))
    refine j_tout (tgt := 117) X dX8_proxy_11 hsw (by decide) ?_
    refine j_iconst X (v := (-1 : Int32)) (by decide) dX8_proxy_117 ?_
    exact j_iret X Y (f_p1 hf) (f_p2 hf) dX8_proxy_118
  replace hf := f_fn c hf
  refine j_iconst X (v := (-1 : Int32)) (by decide) dX8_proxy_8 ?_
  exact j_iret X Y (f_p1 hf) (f_p2 hf) dX8_proxy_9
abbrev rmX8_count : Room := { frames := 0, cells := 0, slots := 0, locals := 0 }
theorem inX8_count_X8 : ∀ w ∈ wsX80, w ∈ wsX8_count := fun _ h => List.mem_cons_of_mem _ (List.mem_append_right _ h)
set_option maxRecDepth 100000 in
set_option maxHeartbeats 4000000 in
theorem c_X8_count (hI : Inj 8 ad) {x1 : Int32} {w : Wd} {out : Int32} (hf : m_X8_count x1 w = some out) : Met l yX8_count wsX8_count rmX8_count (va_Pc [.ref (ad 0), .int x1] (PW D (tR cI) 8 ad (cellR cI ad) w)) (QWi D 8 ad (cellR cI ad) out w) 0 0 (AW 8 ad) := by
  refine mk_met (maxL := 2) (ret := (some .int)) RX8 hI (by decide) rfl rfl (Nat.le_of_ble_eq_true rfl) rfl rfl (fun p e s m args below meth c X Y => ?_)
  unfold m_X8_count at hf
  refine j_iload_n X 1 dX8_count_0 rfl rfl ?_
  by_cases c_0 : x1 = (nI 0)
  · replace hf := f_t c_0 hf
    refine j_tin (tgt := 52) (off := 51) X dX8_count_1 (by rw [c_0]; decide) (by rw [c_0]; decide) (by rw [c_0]; decide) (by decide) ?_
    refine j_aload_n X 0 dX8_count_52 rfl rfl ?_
    refine j_get (ref := "ProxyVersionsModel") (index := 7) (v := .ref (ad 1)) X oMo inX8_count_X8 rfl 0 (by decide) (List.mem_of_getElem? (i := 1) rfl) rfl rfl dX8_count_53 ?_
    refine j_iconst X (v := (nI 0)) (by decide) dX8_count_56 ?_
    obtain ⟨hi1, hf⟩ := f_c hf
    refine j_iald X 0 rfl r1 hi1 dX8_count_57 ?_
    exact j_iret X Y (f_s hf) rfl dX8_count_58
  replace hf := f_f c_0 hf
  by_cases c_1 : x1 = (nI 1)
  · replace hf := f_t c_1 hf
    refine j_tin (tgt := 59) (off := 58) X dX8_count_1 (by rw [c_1]; decide) (by rw [c_1]; decide) (by rw [c_1]; decide) (by decide) ?_
    refine j_aload_n X 0 dX8_count_59 rfl rfl ?_
    refine j_get (ref := "ProxyVersionsModel") (index := 7) (v := .ref (ad 1)) X oMo inX8_count_X8 rfl 0 (by decide) (List.mem_of_getElem? (i := 1) rfl) rfl rfl dX8_count_60 ?_
    refine j_iconst X (v := (nI 1)) (by decide) dX8_count_63 ?_
    obtain ⟨hi2, hf⟩ := f_c hf
    refine j_iald X 0 rfl r1 hi2 dX8_count_64 ?_
    exact j_iret X Y (f_s hf) rfl dX8_count_65
  replace hf := f_f c_1 hf
  by_cases c_2 : x1 = (nI 2)
  · replace hf := f_t c_2 hf
    refine j_tin (tgt := 66) (off := 65) X dX8_count_1 (by rw [c_2]; decide) (by rw [c_2]; decide) (by rw [c_2]; decide) (by decide) ?_
    refine j_aload_n X 0 dX8_count_66 rfl rfl ?_
    refine j_get (ref := "ProxyVersionsModel") (index := 7) (v := .ref (ad 1)) X oMo inX8_count_X8 rfl 0 (by decide) (List.mem_of_getElem? (i := 1) rfl) rfl rfl dX8_count_67 ?_
    refine j_iconst X (v := (nI 2)) (by decide) dX8_count_70 ?_
    obtain ⟨hi3, hf⟩ := f_c hf
    refine j_iald X 0 rfl r1 hi3 dX8_count_71 ?_
    exact j_iret X Y (f_s hf) rfl dX8_count_72
  replace hf := f_f c_2 hf
  by_cases c_3 : x1 = (nI 3)
  · replace hf := f_t c_3 hf
    refine j_tin (tgt := 73) (off := 72) X dX8_count_1 (by rw [c_3]; decide) (by rw [c_3]; decide) (by rw [c_3]; decide) (by decide) ?_
    refine j_aload_n X 0 dX8_count_73 rfl rfl ?_
    refine j_get (ref := "ProxyVersionsModel") (index := 7) (v := .ref (ad 1)) X oMo inX8_count_X8 rfl 0 (by decide) (List.mem_of_getElem? (i := 1) rfl) rfl rfl dX8_count_74 ?_
    refine j_bipush X (v := (nI 19)) (by decide) dX8_count_77 ?_
    obtain ⟨hi4, hf⟩ := f_c hf
    refine j_iald X 0 rfl r1 hi4 dX8_count_79 ?_
    refine j_aload_n X 0 dX8_count_80 rfl rfl ?_
    refine j_get (ref := "ProxyVersionsModel") (index := 7) (v := .ref (ad 1)) X oMo inX8_count_X8 rfl 0 (by decide) (List.mem_of_getElem? (i := 1) rfl) rfl rfl dX8_count_81 ?_
    refine j_bipush X (v := (nI 20)) (by decide) dX8_count_84 ?_
    obtain ⟨hi5, hf⟩ := f_c hf
    refine j_iald X 0 rfl r1 hi5 dX8_count_86 ?_
    refine j_iadd X dX8_count_87 ?_
    refine j_aload_n X 0 dX8_count_88 rfl rfl ?_
    refine j_get (ref := "ProxyVersionsModel") (index := 7) (v := .ref (ad 1)) X oMo inX8_count_X8 rfl 0 (by decide) (List.mem_of_getElem? (i := 1) rfl) rfl rfl dX8_count_89 ?_
    refine j_bipush X (v := (nI 21)) (by decide) dX8_count_92 ?_
    obtain ⟨hi6, hf⟩ := f_c hf
    refine j_iald X 0 rfl r1 hi6 dX8_count_94 ?_
    refine j_iadd X dX8_count_95 ?_
    refine j_aload_n X 0 dX8_count_96 rfl rfl ?_
    refine j_get (ref := "ProxyVersionsModel") (index := 7) (v := .ref (ad 1)) X oMo inX8_count_X8 rfl 0 (by decide) (List.mem_of_getElem? (i := 1) rfl) rfl rfl dX8_count_97 ?_
    refine j_bipush X (v := (nI 22)) (by decide) dX8_count_100 ?_
    obtain ⟨hi7, hf⟩ := f_c hf
    refine j_iald X 0 rfl r1 hi7 dX8_count_102 ?_
    refine j_iadd X dX8_count_103 ?_
    exact j_iret X Y (f_s hf) rfl dX8_count_104
  replace hf := f_f c_3 hf
  by_cases c_4 : x1 = (nI 4)
  · replace hf := f_t c_4 hf
    refine j_tin (tgt := 105) (off := 104) X dX8_count_1 (by rw [c_4]; decide) (by rw [c_4]; decide) (by rw [c_4]; decide) (by decide) ?_
    refine j_aload_n X 0 dX8_count_105 rfl rfl ?_
    refine j_get (ref := "ProxyVersionsModel") (index := 7) (v := .ref (ad 1)) X oMo inX8_count_X8 rfl 0 (by decide) (List.mem_of_getElem? (i := 1) rfl) rfl rfl dX8_count_106 ?_
    refine j_iconst X (v := (nI 3)) (by decide) dX8_count_109 ?_
    obtain ⟨hi8, hf⟩ := f_c hf
    refine j_iald X 0 rfl r1 hi8 dX8_count_110 ?_
    exact j_iret X Y (f_s hf) rfl dX8_count_111
  replace hf := f_f c_4 hf
  by_cases c_5 : x1 = (nI 5)
  · replace hf := f_t c_5 hf
    refine j_tin (tgt := 112) (off := 111) X dX8_count_1 (by rw [c_5]; decide) (by rw [c_5]; decide) (by rw [c_5]; decide) (by decide) ?_
    refine j_aload_n X 0 dX8_count_112 rfl rfl ?_
    refine j_get (ref := "ProxyVersionsModel") (index := 7) (v := .ref (ad 1)) X oMo inX8_count_X8 rfl 0 (by decide) (List.mem_of_getElem? (i := 1) rfl) rfl rfl dX8_count_113 ?_
    refine j_iconst X (v := (nI 4)) (by decide) dX8_count_116 ?_
    obtain ⟨hi9, hf⟩ := f_c hf
    refine j_iald X 0 rfl r1 hi9 dX8_count_117 ?_
    exact j_iret X Y (f_s hf) rfl dX8_count_118
  replace hf := f_f c_5 hf
  by_cases c_6 : x1 = (nI 6)
  · replace hf := f_t c_6 hf
    refine j_tin (tgt := 119) (off := 118) X dX8_count_1 (by rw [c_6]; decide) (by rw [c_6]; decide) (by rw [c_6]; decide) (by decide) ?_
    refine j_aload_n X 0 dX8_count_119 rfl rfl ?_
    refine j_get (ref := "ProxyVersionsModel") (index := 7) (v := .ref (ad 1)) X oMo inX8_count_X8 rfl 0 (by decide) (List.mem_of_getElem? (i := 1) rfl) rfl rfl dX8_count_120 ?_
    refine j_iconst X (v := (nI 5)) (by decide) dX8_count_123 ?_
    obtain ⟨hi10, hf⟩ := f_c hf
    refine j_iald X 0 rfl r1 hi10 dX8_count_124 ?_
    exact j_iret X Y (f_s hf) rfl dX8_count_125
  replace hf := f_f c_6 hf
  by_cases c_7 : x1 = (nI 7)
  · replace hf := f_t c_7 hf
    refine j_tin (tgt := 126) (off := 125) X dX8_count_1 (by rw [c_7]; decide) (by rw [c_7]; decide) (by rw [c_7]; decide) (by decide) ?_
    refine j_aload_n X 0 dX8_count_126 rfl rfl ?_
    refine j_get (ref := "ProxyVersionsModel") (index := 7) (v := .ref (ad 1)) X oMo inX8_count_X8 rfl 0 (by decide) (List.mem_of_getElem? (i := 1) rfl) rfl rfl dX8_count_127 ?_
    refine j_bipush X (v := (nI 6)) (by decide) dX8_count_130 ?_
    obtain ⟨hi11, hf⟩ := f_c hf
    refine j_iald X 0 rfl r1 hi11 dX8_count_132 ?_
    exact j_iret X Y (f_s hf) rfl dX8_count_133
  replace hf := f_f c_7 hf
  by_cases c_8 : x1 = (nI 8)
  · replace hf := f_t c_8 hf
    refine j_tin (tgt := 134) (off := 133) X dX8_count_1 (by rw [c_8]; decide) (by rw [c_8]; decide) (by rw [c_8]; decide) (by decide) ?_
    refine j_aload_n X 0 dX8_count_134 rfl rfl ?_
    refine j_get (ref := "ProxyVersionsModel") (index := 31) (v := .int (w 0 3)) X oMo inX8_count_X8 rfl 3 (by decide) (List.mem_of_getElem? (i := 2) rfl) rfl rfl dX8_count_135 ?_
    exact j_iret X Y (f_s hf) rfl dX8_count_138
  replace hf := f_f c_8 hf
  have hsw : (x1).toInt < 0 ∨ 8 < (x1).toInt := by
    rcases Int.lt_or_le (x1).toInt 0 with h | h
    · exact Or.inl h
    rcases Int.lt_or_le 8 (x1).toInt with h2 | h2
    · exact Or.inr h2
    exfalso
    have h3 : (x1).toInt = 0 ∨ (x1).toInt = 1 ∨ (x1).toInt = 2 ∨ (x1).toInt = 3 ∨ (x1).toInt = 4 ∨ (x1).toInt = 5 ∨ (x1).toInt = 6 ∨ (x1).toInt = 7 ∨ (x1).toInt = 8 := by omega
    rcases h3 with h3 | h3 | h3 | h3 | h3 | h3 | h3 | h3 | h3
    · exact c_0 (Int32.toInt_inj.mp (h3.trans (by decide)))
    · exact c_1 (Int32.toInt_inj.mp (h3.trans (by decide)))
    · exact c_2 (Int32.toInt_inj.mp (h3.trans (by decide)))
    · exact c_3 (Int32.toInt_inj.mp (h3.trans (by decide)))
    · exact c_4 (Int32.toInt_inj.mp (h3.trans (by decide)))
    · exact c_5 (Int32.toInt_inj.mp (h3.trans (by decide)))
    · exact c_6 (Int32.toInt_inj.mp (h3.trans (by decide)))
    · exact c_7 (Int32.toInt_inj.mp (h3.trans (by decide)))
    · exact c_8 (Int32.toInt_inj.mp (h3.trans (by decide)))
  refine j_tout (tgt := 139) X dX8_count_1 hsw (by decide) ?_
  refine j_iconst X (v := (-1 : Int32)) (by decide) dX8_count_139 ?_
  exact j_iret X Y (f_s hf) rfl dX8_count_140
abbrev rmX8_keptPlace : Room := { frames := 0, cells := 0, slots := 0, locals := 0 }
theorem inX8_keptPlace_X8 : ∀ w ∈ wsX80, w ∈ wsX8_keptPlace := fun _ h => List.mem_cons_of_mem _ (List.mem_append_right _ h)
set_option maxRecDepth 100000 in
set_option maxHeartbeats 4000000 in
theorem t_X8_keptPlace_j47 (X : CX p rmX8_keptPlace s m args c cX8_keptPlace 5 RX8 wsX8_keptPlace D (tR cI) 8 ad) (Y : RX meth (some .int)) {x1 : Int32} {x2 : Int32} {x4 : Int32} {s0 : Int32} {w : Wd} {kc : Int32 → Int32 → Option (Int32)} {out : Int32} (hf : m_X8_keptPlace_j47 x1 x2 x4 s0 w kc = some out) (hk_kc : ∀ (y3 : Int32) (y4 : Int32), kc y3 y4 = some out → WJ p l e rmX8_keptPlace s m args below meth c (MQ below (QWi D 8 ad (cellR cI ad) out w) args s 0 0 (AW 8 ad)) 5 D 8 ad (cellR cI ad) w 6 [(0, .ref (ad 0)), (1, .int x1), (2, .int x2), (3, .int y3), (4, .int y4)] []) : WJ p l e rmX8_keptPlace s m args below meth c (MQ below (QWi D 8 ad (cellR cI ad) out w) args s 0 0 (AW 8 ad)) 5 D 8 ad (cellR cI ad) w 47 [(0, .ref (ad 0)), (1, .int x1), (2, .int x2), (4, .int x4)] [.int s0] := by
  unfold m_X8_keptPlace_j47 at hf
  refine j_istore_n (lv' := [(0, .ref (ad 0)), (1, .int x1), (2, .int x2), (3, .int s0), (4, .int x4)]) X dX8_keptPlace_47 rfl (by decide) rfl ?_
  refine j_iinc (v := (x4 + (nI 1))) (lv' := [(0, .ref (ad 0)), (1, .int x1), (2, .int x2), (3, .int s0), (4, .int (x4 + (nI 1)))]) X 4 dX8_keptPlace_48 rfl rfl (by decide) rfl ?_
  refine j_goto (tgt := 6) X dX8_keptPlace_51 (by decide) ?_
  exact hk_kc _ _ hf
set_option maxRecDepth 100000 in
set_option maxHeartbeats 4000000 in
theorem t_X8_keptPlace_L6 (X : CX p rmX8_keptPlace s m args c cX8_keptPlace 5 RX8 wsX8_keptPlace D (tR cI) 8 ad) (Y : RX meth (some .int)) {x1 : Int32} {x2 : Int32} {w : Wd} {out : Int32} : ∀ (n : Nat) (x3 : Int32) (x4 : Int32), m_X8_keptPlace_L6 x1 x2 w n x3 x4 = some out → WJ p l e rmX8_keptPlace s m args below meth c (MQ below (QWi D 8 ad (cellR cI ad) out w) args s 0 0 (AW 8 ad)) 5 D 8 ad (cellR cI ad) w 6 [(0, .ref (ad 0)), (1, .int x1), (2, .int x2), (3, .int x3), (4, .int x4)] [] := by
  intro n
  induction n with
  | zero => intro x3 x4 hf; exact f_n hf
  | succ n ih =>
    intro x3 x4 hf
    rw [m_X8_keptPlace_L6] at hf
    refine j_iload X 4 dX8_keptPlace_6 rfl ?_
    refine j_aload_n X 0 dX8_keptPlace_8 rfl rfl ?_
    refine j_get (ref := "ProxyVersionsModel") (index := 7) (v := .ref (ad 1)) X oMo inX8_keptPlace_X8 rfl 0 (by decide) (List.mem_of_getElem? (i := 1) rfl) rfl rfl dX8_keptPlace_9 ?_
    refine j_sipush X (v := (nI 439)) (by decide) dX8_keptPlace_12 ?_
    refine j_iload_n X 1 dX8_keptPlace_15 rfl rfl ?_
    refine j_iadd X dX8_keptPlace_16 ?_
    obtain ⟨hi1, hf⟩ := f_c hf
    refine j_iald X 0 rfl r1 hi1 dX8_keptPlace_17 ?_
    refine j_icmp_ge (tgt := 54) X dX8_keptPlace_18 (by decide) (fun c => ?_) (fun c => ?_)
    · replace hf := f_t c hf
      refine j_iload_n X 3 dX8_keptPlace_54 rfl rfl ?_
      exact j_iret X Y (f_s hf) rfl dX8_keptPlace_55
    replace hf := f_f c hf
    refine j_aload_n X 0 dX8_keptPlace_21 rfl rfl ?_
    refine j_get (ref := "ProxyVersionsModel") (index := 7) (v := .ref (ad 1)) X oMo inX8_keptPlace_X8 rfl 0 (by decide) (List.mem_of_getElem? (i := 1) rfl) rfl rfl dX8_keptPlace_22 ?_
    refine j_sipush X (v := (nI 447)) (by decide) dX8_keptPlace_25 ?_
    refine j_bipush X (v := (nI 96)) (by decide) dX8_keptPlace_28 ?_
    refine j_iload_n X 1 dX8_keptPlace_30 rfl rfl ?_
    refine j_imul X dX8_keptPlace_31 ?_
    refine j_iadd X dX8_keptPlace_32 ?_
    refine j_iload X 4 dX8_keptPlace_33 rfl ?_
    refine j_iadd X dX8_keptPlace_35 ?_
    obtain ⟨hi2, hf⟩ := f_c hf
    refine j_iald X 0 rfl r1 hi2 dX8_keptPlace_36 ?_
    refine j_iload_n X 2 dX8_keptPlace_37 rfl rfl ?_
    refine j_icmp_ne (tgt := 46) X dX8_keptPlace_38 (by decide) (fun c => ?_) (fun c => ?_)
    · replace hf := f_t c hf
      refine j_iload_n X 3 dX8_keptPlace_46 rfl rfl ?_
      refine j_sub [0, 1, 2, 4] rfl ?_
      exact t_X8_keptPlace_j47 X Y hf ih
    replace hf := f_fn c hf
    refine j_iload X 4 dX8_keptPlace_41 rfl ?_
    refine j_goto (tgt := 47) X dX8_keptPlace_43 (by decide) ?_
    refine j_sub [0, 1, 2, 4] rfl ?_
    exact t_X8_keptPlace_j47 X Y hf ih
set_option maxRecDepth 100000 in
set_option maxHeartbeats 4000000 in
theorem c_X8_keptPlace (hI : Inj 8 ad) {x1 : Int32} {x2 : Int32} {w : Wd} {out : Int32} (hf : m_X8_keptPlace x1 x2 w = some out) : Met l yX8_keptPlace wsX8_keptPlace rmX8_keptPlace (va_Pc [.ref (ad 0), .int x1, .int x2] (PW D (tR cI) 8 ad (cellR cI ad) w)) (QWi D 8 ad (cellR cI ad) out w) 0 0 (AW 8 ad) := by
  refine mk_met (maxL := 5) (ret := (some .int)) RX8 hI (by decide) rfl rfl (Nat.le_of_ble_eq_true rfl) rfl rfl (fun p e s m args below meth c X Y => ?_)
  unfold m_X8_keptPlace at hf
  refine j_bipush X (v := (-9 : Int32)) (by decide) dX8_keptPlace_0 ?_
  refine j_istore_n (lv' := [(0, .ref (ad 0)), (1, .int x1), (2, .int x2), (3, .int (-9 : Int32))]) X dX8_keptPlace_2 rfl (by decide) rfl ?_
  refine j_iconst X (v := (nI 0)) (by decide) dX8_keptPlace_3 ?_
  refine j_istore (lv' := [(0, .ref (ad 0)), (1, .int x1), (2, .int x2), (3, .int (-9 : Int32)), (4, .int (nI 0))]) X dX8_keptPlace_4 (by decide) rfl ?_
  refine t_X8_keptPlace_L6 X Y _ _ _ hf
end WALK15
