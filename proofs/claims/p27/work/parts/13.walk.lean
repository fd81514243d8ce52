/-! ===== the bytecode does what the model says (printed by wip/p27/tools/genL.py) ===== -/
section WALK13
variable {p : Program} {l : Launch} {e : Env} {s : State} {m : MethodId} {args : Array Value} {below : List Frame} {meth : Method} {c : Code} {D : va_G} {cI cL cS : ClassId} {ad : Nat → Nat}
abbrev rmX5_writtenCount : Room := { frames := 1, cells := 0, slots := 0, locals := 21 }
set_option maxRecDepth 100000 in
set_option maxHeartbeats 4000000 in
theorem t_X5_writtenCount_L4 (X : CX p rmX5_writtenCount s m args c cX5_writtenCount 3 RX5 wsX5_writtenCount D (tC cI cL cS) 490 ad) (Y : RX meth (some .int)) {w : Wd} {out : Int32} : ∀ (n : Nat) (x1 : Int32) (x2 : Int32), m_X5_writtenCount_L4 w n x1 x2 = some out → WJ p l e rmX5_writtenCount s m args below meth c (MQ below (QWi D 490 ad (cellC cI cL cS ad) out w) args s 0 0 (AW 490 ad)) 3 D 490 ad (cellC cI cL cS ad) w 4 [(0, .ref (ad 50)), (1, .int x1), (2, .int x2)] [] := by
  intro n
  induction n with
  | zero => intro x1 x2 hf; exact f_n hf
  | succ n ih =>
    intro x1 x2 hf
    rw [m_X5_writtenCount_L4] at hf
    refine j_iload_n X 2 dX5_writtenCount_4 rfl rfl ?_
    refine j_iconst X (v := (nI 4)) (by decide) dX5_writtenCount_5 ?_
    refine j_icmp_ge (tgt := 23) X dX5_writtenCount_6 (by decide) (fun c => ?_) (fun c => ?_)
    · replace hf := f_t c hf
      refine j_iload_n X 1 dX5_writtenCount_23 rfl rfl ?_
      exact j_iret X Y (f_s hf) rfl dX5_writtenCount_24
    replace hf := f_f c hf
    refine j_iload_n X 1 dX5_writtenCount_9 rfl rfl ?_
    refine j_aload_n X 0 dX5_writtenCount_10 rfl rfl ?_
    refine j_iload_n X 2 dX5_writtenCount_11 rfl rfl ?_
    obtain ⟨o1, ho1, hf⟩ := f_bd hf
    refine j_callVi X oS0 rfl rfl [.int x2] (c_X5_writtenOf X.2.2.2.2.2.2.2 ho1) (cwV 1 X.2.2.2.2.1 gX5_writtenCount_X5_writtenOf rfl rfl rfl (by decide +kernel) ⟨Nat.le_of_ble_eq_true rfl, Nat.le_of_ble_eq_true rfl⟩) rfl rfl (Nat.le_of_ble_eq_true rfl) dX5_writtenCount_12 ?_
    refine j_iadd X dX5_writtenCount_15 ?_
    obtain ⟨x1_2, ex1_2, hf⟩ := f_lt hf
    refine j_top ex1_2 ?_
    refine j_istore_n (lv' := [(0, .ref (ad 50)), (1, .int x1_2), (2, .int x2)]) X dX5_writtenCount_16 rfl (by decide) rfl ?_
    refine j_iinc (v := (x2 + (nI 1))) (lv' := [(0, .ref (ad 50)), (1, .int x1_2), (2, .int (x2 + (nI 1)))]) X 2 dX5_writtenCount_17 rfl rfl (by decide) rfl ?_
    refine j_goto (tgt := 4) X dX5_writtenCount_20 (by decide) ?_
    exact ih _ _ hf
set_option maxRecDepth 100000 in
set_option maxHeartbeats 4000000 in
theorem c_X5_writtenCount (hI : Inj 490 ad) {w : Wd} {out : Int32} (hf : m_X5_writtenCount w = some out) : Met l yX5_writtenCount wsX5_writtenCount rmX5_writtenCount (va_Pc [.ref (ad 50)] (PW D (tC cI cL cS) 490 ad (cellC cI cL cS ad) w)) (QWi D 490 ad (cellC cI cL cS ad) out w) 0 0 (AW 490 ad) := by
  refine mk_met (maxL := 3) (ret := (some .int)) RX5 hI (by decide) rfl rfl (Nat.le_of_ble_eq_true rfl) rfl rfl (fun p e s m args below meth c X Y => ?_)
  unfold m_X5_writtenCount at hf
  refine j_iconst X (v := (nI 0)) (by decide) dX5_writtenCount_0 ?_
  refine j_istore_n (lv' := [(0, .ref (ad 50)), (1, .int (nI 0))]) X dX5_writtenCount_1 rfl (by decide) rfl ?_
  refine j_iconst X (v := (nI 0)) (by decide) dX5_writtenCount_2 ?_
  refine j_istore_n (lv' := [(0, .ref (ad 50)), (1, .int (nI 0)), (2, .int (nI 0))]) X dX5_writtenCount_3 rfl (by decide) rfl ?_
  refine t_X5_writtenCount_L4 X Y _ _ _ hf
abbrev rmX6_sizeOf : Room := { frames := 1, cells := 0, slots := 0, locals := 20 }
set_option maxRecDepth 100000 in
set_option maxHeartbeats 4000000 in
theorem c_X6_sizeOf (hI : Inj 490 ad) {x0 : Int32} {w : Wd} {out : Int32} (hf : m_X6_sizeOf x0 = some out) : Met l yX6_sizeOf wsX6_sizeOf rmX6_sizeOf (va_Pc [.int x0] (PW D (tC cI cL cS) 490 ad (cellC cI cL cS ad) w)) (QWi D 490 ad (cellC cI cL cS ad) out w) 0 0 (AW 490 ad) := by
  refine mk_met (maxL := 1) (ret := (some .int)) RX6 hI (by decide) rfl rfl (Nat.le_of_ble_eq_true rfl) rfl rfl (fun p e s m args below meth c X Y => ?_)
  unfold m_X6_sizeOf at hf
  refine j_iload_n X 0 dX6_sizeOf_0 rfl rfl ?_
  obtain ⟨o1, ho1, hf⟩ := f_bd hf
  refine j_callSi X [.int x0] (c_J6_bitCount_0f7a4 X.2.2.2.2.2.2.2 ho1) (va_cwS 1 X.2.2.2.2.1 gX6_sizeOf_J6_bitCount_0f7a4 rfl rfl rfl (by decide +kernel) ⟨Nat.le_of_ble_eq_true rfl, Nat.le_of_ble_eq_true rfl⟩) rfl rfl (Nat.le_of_ble_eq_true rfl) dX6_sizeOf_1 ?_
  exact j_iret X Y (f_s hf) rfl dX6_sizeOf_4
abbrev rmX5_knownCount : Room := { frames := 2, cells := 0, slots := 0, locals := 40 }
set_option maxRecDepth 100000 in
set_option maxHeartbeats 4000000 in
theorem t_X5_knownCount_L4 (X : CX p rmX5_knownCount s m args c cX5_knownCount 4 RX5 wsX5_knownCount D (tC cI cL cS) 490 ad) (Y : RX meth (some .int)) {x1 : Int32} {w : Wd} {out : Int32} : ∀ (n : Nat) (x2 : Int32) (x3 : Int32), m_X5_knownCount_L4 x1 w n x2 x3 = some out → WJ p l e rmX5_knownCount s m args below meth c (MQ below (QWi D 490 ad (cellC cI cL cS ad) out w) args s 0 0 (AW 490 ad)) 4 D 490 ad (cellC cI cL cS ad) w 4 [(0, .ref (ad 50)), (1, .int x1), (2, .int x2), (3, .int x3)] [] := by
  intro n
  induction n with
  | zero => intro x2 x3 hf; exact f_n hf
  | succ n ih =>
    intro x2 x3 hf
    rw [m_X5_knownCount_L4] at hf
    refine j_iload_n X 3 dX5_knownCount_4 rfl rfl ?_
    refine j_iconst X (v := (nI 4)) (by decide) dX5_knownCount_5 ?_
    refine j_icmp_ge (tgt := 27) X dX5_knownCount_6 (by decide) (fun c => ?_) (fun c => ?_)
    · replace hf := f_t c hf
      refine j_iload_n X 2 dX5_knownCount_27 rfl rfl ?_
      exact j_iret X Y (f_s hf) rfl dX5_knownCount_28
    replace hf := f_f c hf
    refine j_iload_n X 2 dX5_knownCount_9 rfl rfl ?_
    refine j_aload_n X 0 dX5_knownCount_10 rfl rfl ?_
    refine j_iload_n X 1 dX5_knownCount_11 rfl rfl ?_
    refine j_iload_n X 3 dX5_knownCount_12 rfl rfl ?_
    obtain ⟨o1, ho1, hf⟩ := f_bd hf
    refine j_callVi X oS0 rfl rfl [.int x1, .int x3] (c_X5_knownOf X.2.2.2.2.2.2.2 ho1) (cwV 2 X.2.2.2.2.1 gX5_knownCount_X5_knownOf rfl rfl rfl (by decide +kernel) ⟨Nat.le_of_ble_eq_true rfl, Nat.le_of_ble_eq_true rfl⟩) rfl rfl (Nat.le_of_ble_eq_true rfl) dX5_knownCount_13 ?_
    obtain ⟨o2, ho2, hf⟩ := f_bd hf
    refine j_callSi X [.int o1] (c_X6_sizeOf X.2.2.2.2.2.2.2 ho2) (va_cwS 1 X.2.2.2.2.1 gX5_knownCount_X6_sizeOf rfl rfl rfl (by decide +kernel) ⟨Nat.le_of_ble_eq_true rfl, Nat.le_of_ble_eq_true rfl⟩) rfl rfl (Nat.le_of_ble_eq_true rfl) dX5_knownCount_16 ?_
    refine j_iadd X dX5_knownCount_19 ?_
    obtain ⟨x2_3, ex2_3, hf⟩ := f_lt hf
    refine j_top ex2_3 ?_
    refine j_istore_n (lv' := [(0, .ref (ad 50)), (1, .int x1), (2, .int x2_3), (3, .int x3)]) X dX5_knownCount_20 rfl (by decide) rfl ?_
    refine j_iinc (v := (x3 + (nI 1))) (lv' := [(0, .ref (ad 50)), (1, .int x1), (2, .int x2_3), (3, .int (x3 + (nI 1)))]) X 3 dX5_knownCount_21 rfl rfl (by decide) rfl ?_
    refine j_goto (tgt := 4) X dX5_knownCount_24 (by decide) ?_
    exact ih _ _ hf
set_option maxRecDepth 100000 in
set_option maxHeartbeats 4000000 in
theorem c_X5_knownCount (hI : Inj 490 ad) {x1 : Int32} {w : Wd} {out : Int32} (hf : m_X5_knownCount x1 w = some out) : Met l yX5_knownCount wsX5_knownCount rmX5_knownCount (va_Pc [.ref (ad 50), .int x1] (PW D (tC cI cL cS) 490 ad (cellC cI cL cS ad) w)) (QWi D 490 ad (cellC cI cL cS ad) out w) 0 0 (AW 490 ad) := by
  refine mk_met (maxL := 4) (ret := (some .int)) RX5 hI (by decide) rfl rfl (Nat.le_of_ble_eq_true rfl) rfl rfl (fun p e s m args below meth c X Y => ?_)
  unfold m_X5_knownCount at hf
  refine j_iconst X (v := (nI 0)) (by decide) dX5_knownCount_0 ?_
  refine j_istore_n (lv' := [(0, .ref (ad 50)), (1, .int x1), (2, .int (nI 0))]) X dX5_knownCount_1 rfl (by decide) rfl ?_
  refine j_iconst X (v := (nI 0)) (by decide) dX5_knownCount_2 ?_
  refine j_istore_n (lv' := [(0, .ref (ad 50)), (1, .int x1), (2, .int (nI 0)), (3, .int (nI 0))]) X dX5_knownCount_3 rfl (by decide) rfl ?_
  refine t_X5_knownCount_L4 X Y _ _ _ hf
abbrev rmX6_exceptionsIn : Room := { frames := 2, cells := 0, slots := 0, locals := 40 }
set_option maxRecDepth 100000 in
set_option maxHeartbeats 4000000 in
theorem c_X6_exceptionsIn (hI : Inj 490 ad) {x0 : Int32} {w : Wd} {out : Int32} (hf : m_X6_exceptionsIn x0 = some out) : Met l yX6_exceptionsIn wsX6_exceptionsIn rmX6_exceptionsIn (va_Pc [.int x0] (PW D (tC cI cL cS) 490 ad (cellC cI cL cS ad) w)) (QWi D 490 ad (cellC cI cL cS ad) out w) 0 0 (AW 490 ad) := by
  refine mk_met (maxL := 1) (ret := (some .int)) RX6 hI (by decide) rfl rfl (Nat.le_of_ble_eq_true rfl) rfl rfl (fun p e s m args below meth c X Y => ?_)
  unfold m_X6_exceptionsIn at hf
  refine j_iload_n X 0 dX6_exceptionsIn_0 rfl rfl ?_
  obtain ⟨o1, ho1, hf⟩ := f_bd hf
  refine j_callSi X [.int x0] (c_X6_greatest X.2.2.2.2.2.2.2 ho1) (va_cwS 1 X.2.2.2.2.1 gX6_exceptionsIn_X6_greatest rfl rfl rfl (by decide +kernel) ⟨Nat.le_of_ble_eq_true rfl, Nat.le_of_ble_eq_true rfl⟩) rfl rfl (Nat.le_of_ble_eq_true rfl) dX6_exceptionsIn_1 ?_
  refine j_iload_n X 0 dX6_exceptionsIn_4 rfl rfl ?_
  obtain ⟨o2, ho2, hf⟩ := f_bd hf
  refine j_callSi X [.int x0] (c_X6_sizeOf X.2.2.2.2.2.2.2 ho2) (va_cwS 1 X.2.2.2.2.1 gX6_exceptionsIn_X6_sizeOf rfl rfl rfl (by decide +kernel) ⟨Nat.le_of_ble_eq_true rfl, Nat.le_of_ble_eq_true rfl⟩) rfl rfl (Nat.le_of_ble_eq_true rfl) dX6_exceptionsIn_5 ?_
  refine j_isub X dX6_exceptionsIn_8 ?_
  exact j_iret X Y (f_s hf) rfl dX6_exceptionsIn_9
abbrev rmX5_exceptionCount : Room := { frames := 3, cells := 0, slots := 0, locals := 60 }
set_option maxRecDepth 100000 in
set_option maxHeartbeats 4000000 in
theorem t_X5_exceptionCount_L4 (X : CX p rmX5_exceptionCount s m args c cX5_exceptionCount 4 RX5 wsX5_exceptionCount D (tC cI cL cS) 490 ad) (Y : RX meth (some .int)) {x1 : Int32} {w : Wd} {out : Int32} : ∀ (n : Nat) (x2 : Int32) (x3 : Int32), m_X5_exceptionCount_L4 x1 w n x2 x3 = some out → WJ p l e rmX5_exceptionCount s m args below meth c (MQ below (QWi D 490 ad (cellC cI cL cS ad) out w) args s 0 0 (AW 490 ad)) 4 D 490 ad (cellC cI cL cS ad) w 4 [(0, .ref (ad 50)), (1, .int x1), (2, .int x2), (3, .int x3)] [] := by
  intro n
  induction n with
  | zero => intro x2 x3 hf; exact f_n hf
  | succ n ih =>
    intro x2 x3 hf
    rw [m_X5_exceptionCount_L4] at hf
    refine j_iload_n X 3 dX5_exceptionCount_4 rfl rfl ?_
    refine j_iconst X (v := (nI 4)) (by decide) dX5_exceptionCount_5 ?_
    refine j_icmp_ge (tgt := 27) X dX5_exceptionCount_6 (by decide) (fun c => ?_) (fun c => ?_)
    · replace hf := f_t c hf
      refine j_iload_n X 2 dX5_exceptionCount_27 rfl rfl ?_
      exact j_iret X Y (f_s hf) rfl dX5_exceptionCount_28
    replace hf := f_f c hf
    refine j_iload_n X 2 dX5_exceptionCount_9 rfl rfl ?_
    refine j_aload_n X 0 dX5_exceptionCount_10 rfl rfl ?_
    refine j_iload_n X 1 dX5_exceptionCount_11 rfl rfl ?_
    refine j_iload_n X 3 dX5_exceptionCount_12 rfl rfl ?_
    obtain ⟨o1, ho1, hf⟩ := f_bd hf
    refine j_callVi X oS0 rfl rfl [.int x1, .int x3] (c_X5_knownOf X.2.2.2.2.2.2.2 ho1) (cwV 2 X.2.2.2.2.1 gX5_exceptionCount_X5_knownOf rfl rfl rfl (by decide +kernel) ⟨Nat.le_of_ble_eq_true rfl, Nat.le_of_ble_eq_true rfl⟩) rfl rfl (Nat.le_of_ble_eq_true rfl) dX5_exceptionCount_13 ?_
    obtain ⟨o2, ho2, hf⟩ := f_bd hf
    refine j_callSi X [.int o1] (c_X6_exceptionsIn X.2.2.2.2.2.2.2 ho2) (va_cwS 1 X.2.2.2.2.1 gX5_exceptionCount_X6_exceptionsIn rfl rfl rfl (by decide +kernel) ⟨Nat.le_of_ble_eq_true rfl, Nat.le_of_ble_eq_true rfl⟩) rfl rfl (Nat.le_of_ble_eq_true rfl) dX5_exceptionCount_16 ?_
    refine j_iadd X dX5_exceptionCount_19 ?_
    obtain ⟨x2_3, ex2_3, hf⟩ := f_lt hf
    refine j_top ex2_3 ?_
    refine j_istore_n (lv' := [(0, .ref (ad 50)), (1, .int x1), (2, .int x2_3), (3, .int x3)]) X dX5_exceptionCount_20 rfl (by decide) rfl ?_
    refine j_iinc (v := (x3 + (nI 1))) (lv' := [(0, .ref (ad 50)), (1, .int x1), (2, .int x2_3), (3, .int (x3 + (nI 1)))]) X 3 dX5_exceptionCount_21 rfl rfl (by decide) rfl ?_
    refine j_goto (tgt := 4) X dX5_exceptionCount_24 (by decide) ?_
    exact ih _ _ hf
set_option maxRecDepth 100000 in
set_option maxHeartbeats 4000000 in
theorem c_X5_exceptionCount (hI : Inj 490 ad) {x1 : Int32} {w : Wd} {out : Int32} (hf : m_X5_exceptionCount x1 w = some out) : Met l yX5_exceptionCount wsX5_exceptionCount rmX5_exceptionCount (va_Pc [.ref (ad 50), .int x1] (PW D (tC cI cL cS) 490 ad (cellC cI cL cS ad) w)) (QWi D 490 ad (cellC cI cL cS ad) out w) 0 0 (AW 490 ad) := by
  refine mk_met (maxL := 4) (ret := (some .int)) RX5 hI (by decide) rfl rfl (Nat.le_of_ble_eq_true rfl) rfl rfl (fun p e s m args below meth c X Y => ?_)
  unfold m_X5_exceptionCount at hf
  refine j_iconst X (v := (nI 0)) (by decide) dX5_exceptionCount_0 ?_
  refine j_istore_n (lv' := [(0, .ref (ad 50)), (1, .int x1), (2, .int (nI 0))]) X dX5_exceptionCount_1 rfl (by decide) rfl ?_
  refine j_iconst X (v := (nI 0)) (by decide) dX5_exceptionCount_2 ?_
  refine j_istore_n (lv' := [(0, .ref (ad 50)), (1, .int x1), (2, .int (nI 0)), (3, .int (nI 0))]) X dX5_exceptionCount_3 rfl (by decide) rfl ?_
  refine t_X5_exceptionCount_L4 X Y _ _ _ hf
abbrev rmX5_vectorSize : Room := { frames := 2, cells := 0, slots := 0, locals := 40 }
set_option maxRecDepth 100000 in
set_option maxHeartbeats 4000000 in
theorem t_X5_vectorSize_j33 (X : CX p rmX5_vectorSize s m args c cX5_vectorSize 5 RX5 wsX5_vectorSize D (tC cI cL cS) 490 ad) (Y : RX meth (some .int)) {x1 : Int32} {x3 : Int32} {s0 : Int32} {s1 : Int32} {s2 : Int32} {w : Wd} {kc : Int32 → Int32 → Option (Int32)} {out : Int32} (hf : m_X5_vectorSize_j33 x1 x3 s0 s1 s2 w kc = some out) (hk_kc : ∀ (y2 : Int32) (y3 : Int32), kc y2 y3 = some out → WJ p l e rmX5_vectorSize s m args below meth c (MQ below (QWi D 490 ad (cellC cI cL cS ad) out w) args s 0 0 (AW 490 ad)) 5 D 490 ad (cellC cI cL cS ad) w 4 [(0, .ref (ad 50)), (1, .int x1), (2, .int y2), (3, .int y3)] []) : WJ p l e rmX5_vectorSize s m args below meth c (MQ below (QWi D 490 ad (cellC cI cL cS ad) out w) args s 0 0 (AW 490 ad)) 5 D 490 ad (cellC cI cL cS ad) w 33 [(0, .ref (ad 50)), (1, .int x1), (3, .int x3)] [.int s2, .int s1, .int s0] := by
  unfold m_X5_vectorSize_j33 at hf
  refine j_iadd X dX5_vectorSize_33 ?_
  refine j_iadd X dX5_vectorSize_34 ?_
  obtain ⟨x2_1, ex2_1, hf⟩ := f_lt hf
  refine j_top ex2_1 ?_
  refine j_istore_n (lv' := [(0, .ref (ad 50)), (1, .int x1), (2, .int x2_1), (3, .int x3)]) X dX5_vectorSize_35 rfl (by decide) rfl ?_
  refine j_iinc (v := (x3 + (nI 1))) (lv' := [(0, .ref (ad 50)), (1, .int x1), (2, .int x2_1), (3, .int (x3 + (nI 1)))]) X 3 dX5_vectorSize_36 rfl rfl (by decide) rfl ?_
  refine j_goto (tgt := 4) X dX5_vectorSize_39 (by decide) ?_
  exact hk_kc _ _ hf
set_option maxRecDepth 100000 in
set_option maxHeartbeats 4000000 in
theorem t_X5_vectorSize_L4 (X : CX p rmX5_vectorSize s m args c cX5_vectorSize 5 RX5 wsX5_vectorSize D (tC cI cL cS) 490 ad) (Y : RX meth (some .int)) {x1 : Int32} {w : Wd} {out : Int32} : ∀ (n : Nat) (x2 : Int32) (x3 : Int32), m_X5_vectorSize_L4 x1 w n x2 x3 = some out → WJ p l e rmX5_vectorSize s m args below meth c (MQ below (QWi D 490 ad (cellC cI cL cS ad) out w) args s 0 0 (AW 490 ad)) 5 D 490 ad (cellC cI cL cS ad) w 4 [(0, .ref (ad 50)), (1, .int x1), (2, .int x2), (3, .int x3)] [] := by
  intro n
  induction n with
  | zero => intro x2 x3 hf; exact f_n hf
  | succ n ih =>
    intro x2 x3 hf
    rw [m_X5_vectorSize_L4] at hf
    refine j_iload_n X 3 dX5_vectorSize_4 rfl rfl ?_
    refine j_iconst X (v := (nI 4)) (by decide) dX5_vectorSize_5 ?_
    refine j_icmp_ge (tgt := 42) X dX5_vectorSize_6 (by decide) (fun c => ?_) (fun c => ?_)
    · replace hf := f_t c hf
      refine j_iload_n X 2 dX5_vectorSize_42 rfl rfl ?_
      exact j_iret X Y (f_s hf) rfl dX5_vectorSize_43
    replace hf := f_f c hf
    refine j_aload_n X 0 dX5_vectorSize_9 rfl rfl ?_
    refine j_iload_n X 1 dX5_vectorSize_10 rfl rfl ?_
    refine j_iload_n X 3 dX5_vectorSize_11 rfl rfl ?_
    obtain ⟨o1, ho1, hf⟩ := f_bd hf
    refine j_callVi X oS0 rfl rfl [.int x1, .int x3] (c_X5_knownOf X.2.2.2.2.2.2.2 ho1) (cwV 2 X.2.2.2.2.1 gX5_vectorSize_X5_knownOf rfl rfl rfl (by decide +kernel) ⟨Nat.le_of_ble_eq_true rfl, Nat.le_of_ble_eq_true rfl⟩) rfl rfl (Nat.le_of_ble_eq_true rfl) dX5_vectorSize_12 ?_
    refine j_istore (lv' := [(0, .ref (ad 50)), (1, .int x1), (2, .int x2), (3, .int x3), (4, .int o1)]) X dX5_vectorSize_15 (by decide) rfl ?_
    refine j_iload_n X 2 dX5_vectorSize_17 rfl rfl ?_
    refine j_iload X 4 dX5_vectorSize_18 rfl ?_
    obtain ⟨o2, ho2, hf⟩ := f_bd hf
    refine j_callSi X [.int o1] (c_X6_rangesIn X.2.2.2.2.2.2.2 ho2) (va_cwS 1 X.2.2.2.2.1 gX5_vectorSize_X6_rangesIn rfl rfl rfl (by decide +kernel) ⟨Nat.le_of_ble_eq_true rfl, Nat.le_of_ble_eq_true rfl⟩) rfl rfl (Nat.le_of_ble_eq_true rfl) dX5_vectorSize_20 ?_
    refine j_iload X 4 dX5_vectorSize_23 rfl ?_
    refine j_if_eq (tgt := 32) X dX5_vectorSize_25 (by decide) (fun c => ?_) (fun c => ?_)
    · replace hf := f_t c hf
      refine j_iconst X (v := (nI 0)) (by decide) dX5_vectorSize_32 ?_
      refine j_sub [0, 1, 3] rfl ?_
      exact t_X5_vectorSize_j33 X Y hf ih
    replace hf := f_f c hf
    refine j_iconst X (v := (nI 1)) (by decide) dX5_vectorSize_28 ?_
    refine j_goto (tgt := 33) X dX5_vectorSize_29 (by decide) ?_
    refine j_sub [0, 1, 3] rfl ?_
    exact t_X5_vectorSize_j33 X Y hf ih
set_option maxRecDepth 100000 in
set_option maxHeartbeats 4000000 in
theorem c_X5_vectorSize (hI : Inj 490 ad) {x1 : Int32} {w : Wd} {out : Int32} (hf : m_X5_vectorSize x1 w = some out) : Met l yX5_vectorSize wsX5_vectorSize rmX5_vectorSize (va_Pc [.ref (ad 50), .int x1] (PW D (tC cI cL cS) 490 ad (cellC cI cL cS ad) w)) (QWi D 490 ad (cellC cI cL cS ad) out w) 0 0 (AW 490 ad) := by
  refine mk_met (maxL := 5) (ret := (some .int)) RX5 hI (by decide) rfl rfl (Nat.le_of_ble_eq_true rfl) rfl rfl (fun p e s m args below meth c X Y => ?_)
  unfold m_X5_vectorSize at hf
  refine j_iconst X (v := (nI 0)) (by decide) dX5_vectorSize_0 ?_
  refine j_istore_n (lv' := [(0, .ref (ad 50)), (1, .int x1), (2, .int (nI 0))]) X dX5_vectorSize_1 rfl (by decide) rfl ?_
  refine j_iconst X (v := (nI 0)) (by decide) dX5_vectorSize_2 ?_
  refine j_istore_n (lv' := [(0, .ref (ad 50)), (1, .int x1), (2, .int (nI 0)), (3, .int (nI 0))]) X dX5_vectorSize_3 rfl (by decide) rfl ?_
  refine t_X5_vectorSize_L4 X Y _ _ _ hf
abbrev rmX7_commitIfDone : Room := { frames := 2, cells := 0, slots := 0, locals := 80 }
theorem inX7_commitIfDone_X7 : ∀ w ∈ wsX70, w ∈ wsX7_commitIfDone := fun _ h => List.mem_cons_of_mem _ (List.mem_append_left _ (List.mem_append_right _ h))
set_option maxRecDepth 100000 in
set_option maxHeartbeats 4000000 in
theorem c_X7_commitIfDone (hI : Inj 490 ad) {x1 : Int32} {w : Wd} {out : Int32 × Wd} (hf : m_X7_commitIfDone x1 w = some out) : Met l yX7_commitIfDone wsX7_commitIfDone rmX7_commitIfDone (va_Pc [.ref (ad 472), .int x1] (PW D (tC cI cL cS) 490 ad (cellC cI cL cS ad) w)) (QWi D 490 ad (cellC cI cL cS ad) out.1 out.2) 0 0 (AW 490 ad) := by
  refine mk_met (maxL := 2) (ret := (some .int)) RX7 hI (by decide) rfl rfl (Nat.le_of_ble_eq_true rfl) rfl rfl (fun p e s m args below meth c X Y => ?_)
  unfold m_X7_commitIfDone at hf
  refine j_iload_n X 1 dX7_commitIfDone_0 rfl rfl ?_
  refine j_if_lt (tgt := 11) X dX7_commitIfDone_1 (by decide) (fun c => ?_) (fun c => ?_)
  · replace hf := f_t c hf
    refine j_iload_n X 1 dX7_commitIfDone_11 rfl rfl ?_
    exact j_iret X Y (f_p1 hf) (f_p2 hf) dX7_commitIfDone_12
  replace hf := f_f c hf
  refine j_aload_n X 0 dX7_commitIfDone_4 rfl rfl ?_
  refine j_get (ref := "ProxyVersions") (index := 37) (v := .ref (ad 477)) X oPV inX7_commitIfDone_X7 rfl 3 (by decide) (List.mem_of_getElem? (i := 1) rfl) rfl rfl dX7_commitIfDone_5 ?_
  obtain ⟨o1, ho1, hf⟩ := f_bd hf
  refine j_callVv X oHi rfl rfl [] (c_X1_commit X.2.2.2.2.2.2.2 ho1) (cwV 0 X.2.2.2.2.1 gX7_commitIfDone_X1_commit rfl rfl rfl (by decide +kernel) ⟨Nat.le_of_ble_eq_true rfl, Nat.le_of_ble_eq_true rfl⟩) rfl rfl (Nat.le_of_ble_eq_true rfl) dX7_commitIfDone_8 ?_
  refine j_iload_n X 1 dX7_commitIfDone_11 rfl rfl ?_
  exact j_iret X Y (f_p1 hf) (f_p2 hf) dX7_commitIfDone_12
abbrev rmX7_addProxy : Room := { frames := 4, cells := 0, slots := 0, locals := 124 }
theorem inX7_addProxy_X7 : ∀ w ∈ wsX70, w ∈ wsX7_addProxy := fun _ h => List.mem_cons_of_mem _ (List.mem_append_left _ (List.mem_append_left _ (List.mem_append_left _ (List.mem_append_left _ (List.mem_append_right _ h)))))
set_option maxRecDepth 100000 in
set_option maxHeartbeats 4000000 in
theorem c_X7_addProxy (hI : Inj 490 ad) {x1 : Int32} {w : Wd} {out : Int32 × Wd} (hf : m_X7_addProxy x1 w = some out) : Met l yX7_addProxy wsX7_addProxy rmX7_addProxy (va_Pc [.ref (ad 472), .int x1] (PW D (tC cI cL cS) 490 ad (cellC cI cL cS ad) w)) (QWi D 490 ad (cellC cI cL cS ad) out.1 out.2) 0 0 (AW 490 ad) := by
  refine mk_met (maxL := 2) (ret := (some .int)) RX7 hI (by decide) rfl rfl (Nat.le_of_ble_eq_true rfl) rfl rfl (fun p e s m args below meth c X Y => ?_)
  unfold m_X7_addProxy at hf
  refine j_aload_n X 0 dX7_addProxy_0 rfl rfl ?_
  refine j_get (ref := "ProxyVersions") (index := 37) (v := .ref (ad 477)) X oPV inX7_addProxy_X7 rfl 3 (by decide) (List.mem_of_getElem? (i := 1) rfl) rfl rfl dX7_addProxy_1 ?_
  refine j_aload_n X 0 dX7_addProxy_4 rfl rfl ?_
  refine j_get (ref := "ProxyVersions") (index := 12) (v := .ref (ad 50)) X oPV inX7_addProxy_X7 rfl 0 (by decide) (List.mem_of_getElem? (i := 2) rfl) rfl rfl dX7_addProxy_5 ?_
  obtain ⟨o1, ho1, hf⟩ := f_bd hf
  refine j_callVv X oHi rfl rfl [.ref (ad 50)] (c_X1_stage X.2.2.2.2.2.2.2 ho1) (cwV 1 X.2.2.2.2.1 gX7_addProxy_X1_stage rfl rfl rfl (by decide +kernel) ⟨Nat.le_of_ble_eq_true rfl, Nat.le_of_ble_eq_true rfl⟩) rfl rfl (Nat.le_of_ble_eq_true rfl) dX7_addProxy_8 ?_
  refine j_aload_n X 0 dX7_addProxy_11 rfl rfl ?_
  refine j_aload_n X 0 dX7_addProxy_12 rfl rfl ?_
  refine j_get (ref := "ProxyVersions") (index := 30) (v := .ref (ad 476)) X oPV inX7_addProxy_X7 rfl 2 (by decide) (List.mem_of_getElem? (i := 3) rfl) rfl rfl dX7_addProxy_13 ?_
  refine j_iload_n X 1 dX7_addProxy_16 rfl rfl ?_
  obtain ⟨o2, ho2, hf⟩ := f_bd hf
  refine j_callVi X oNe rfl rfl [.int x1] (c_X3_insertProxy X.2.2.2.2.2.2.2 ho2) (cwV 1 X.2.2.2.2.1 gX7_addProxy_X3_insertProxy rfl rfl rfl (by decide +kernel) ⟨Nat.le_of_ble_eq_true rfl, Nat.le_of_ble_eq_true rfl⟩) rfl rfl (Nat.le_of_ble_eq_true rfl) dX7_addProxy_17 ?_
  obtain ⟨o3, ho3, hf⟩ := f_bd hf
  refine j_callVi X oPV rfl rfl [.int o2.1] (c_X7_commitIfDone X.2.2.2.2.2.2.2 ho3) (cwV 1 X.2.2.2.2.1 gX7_addProxy_X7_commitIfDone rfl rfl rfl (by decide +kernel) ⟨Nat.le_of_ble_eq_true rfl, Nat.le_of_ble_eq_true rfl⟩) rfl rfl (Nat.le_of_ble_eq_true rfl) dX7_addProxy_20 ?_
  exact j_iret X Y (f_p1 hf) (f_p2 hf) dX7_addProxy_23
abbrev rmX7_setHome : Room := { frames := 4, cells := 0, slots := 0, locals := 124 }
theorem inX7_setHome_X7 : ∀ w ∈ wsX70, w ∈ wsX7_setHome := fun _ h => List.mem_cons_of_mem _ (List.mem_append_left _ (List.mem_append_left _ (List.mem_append_left _ (List.mem_append_left _ (List.mem_append_right _ h)))))
set_option maxRecDepth 100000 in
set_option maxHeartbeats 4000000 in
theorem c_X7_setHome (hI : Inj 490 ad) {x1 : Int32} {x2 : Int32} {w : Wd} {out : Int32 × Wd} (hf : m_X7_setHome x1 x2 w = some out) : Met l yX7_setHome wsX7_setHome rmX7_setHome (va_Pc [.ref (ad 472), .int x1, .int x2] (PW D (tC cI cL cS) 490 ad (cellC cI cL cS ad) w)) (QWi D 490 ad (cellC cI cL cS ad) out.1 out.2) 0 0 (AW 490 ad) := by
  refine mk_met (maxL := 3) (ret := (some .int)) RX7 hI (by decide) rfl rfl (Nat.le_of_ble_eq_true rfl) rfl rfl (fun p e s m args below meth c X Y => ?_)
  unfold m_X7_setHome at hf
  refine j_aload_n X 0 dX7_setHome_0 rfl rfl ?_
  refine j_get (ref := "ProxyVersions") (index := 37) (v := .ref (ad 477)) X oPV inX7_setHome_X7 rfl 3 (by decide) (List.mem_of_getElem? (i := 1) rfl) rfl rfl dX7_setHome_1 ?_
  refine j_aload_n X 0 dX7_setHome_4 rfl rfl ?_
  refine j_get (ref := "ProxyVersions") (index := 12) (v := .ref (ad 50)) X oPV inX7_setHome_X7 rfl 0 (by decide) (List.mem_of_getElem? (i := 2) rfl) rfl rfl dX7_setHome_5 ?_
  obtain ⟨o1, ho1, hf⟩ := f_bd hf
  refine j_callVv X oHi rfl rfl [.ref (ad 50)] (c_X1_stage X.2.2.2.2.2.2.2 ho1) (cwV 1 X.2.2.2.2.1 gX7_setHome_X1_stage rfl rfl rfl (by decide +kernel) ⟨Nat.le_of_ble_eq_true rfl, Nat.le_of_ble_eq_true rfl⟩) rfl rfl (Nat.le_of_ble_eq_true rfl) dX7_setHome_8 ?_
  refine j_aload_n X 0 dX7_setHome_11 rfl rfl ?_
  refine j_aload_n X 0 dX7_setHome_12 rfl rfl ?_
  refine j_get (ref := "ProxyVersions") (index := 30) (v := .ref (ad 476)) X oPV inX7_setHome_X7 rfl 2 (by decide) (List.mem_of_getElem? (i := 3) rfl) rfl rfl dX7_setHome_13 ?_
  refine j_iload_n X 1 dX7_setHome_16 rfl rfl ?_
  refine j_iload_n X 2 dX7_setHome_17 rfl rfl ?_
  obtain ⟨o2, ho2, hf⟩ := f_bd hf
  refine j_callVi X oNe rfl rfl [.int x1, .int x2] (c_X3_changeHome X.2.2.2.2.2.2.2 ho2) (cwV 2 X.2.2.2.2.1 gX7_setHome_X3_changeHome rfl rfl rfl (by decide +kernel) ⟨Nat.le_of_ble_eq_true rfl, Nat.le_of_ble_eq_true rfl⟩) rfl rfl (Nat.le_of_ble_eq_true rfl) dX7_setHome_18 ?_
  obtain ⟨o3, ho3, hf⟩ := f_bd hf
  refine j_callVi X oPV rfl rfl [.int o2.1] (c_X7_commitIfDone X.2.2.2.2.2.2.2 ho3) (cwV 1 X.2.2.2.2.1 gX7_setHome_X7_commitIfDone rfl rfl rfl (by decide +kernel) ⟨Nat.le_of_ble_eq_true rfl, Nat.le_of_ble_eq_true rfl⟩) rfl rfl (Nat.le_of_ble_eq_true rfl) dX7_setHome_21 ?_
  exact j_iret X Y (f_p1 hf) (f_p2 hf) dX7_setHome_24
abbrev rmX7_setLimits : Room := { frames := 4, cells := 0, slots := 0, locals := 124 }
theorem inX7_setLimits_X7 : ∀ w ∈ wsX70, w ∈ wsX7_setLimits := fun _ h => List.mem_cons_of_mem _ (List.mem_append_left _ (List.mem_append_left _ (List.mem_append_left _ (List.mem_append_left _ (List.mem_append_right _ h)))))
set_option maxRecDepth 100000 in
set_option maxHeartbeats 4000000 in
theorem c_X7_setLimits (hI : Inj 490 ad) {x1 : Int32} {x2 : Int32} {w : Wd} {out : Int32 × Wd} (hf : m_X7_setLimits x1 x2 w = some out) : Met l yX7_setLimits wsX7_setLimits rmX7_setLimits (va_Pc [.ref (ad 472), .int x1, .int x2] (PW D (tC cI cL cS) 490 ad (cellC cI cL cS ad) w)) (QWi D 490 ad (cellC cI cL cS ad) out.1 out.2) 0 0 (AW 490 ad) := by
  refine mk_met (maxL := 3) (ret := (some .int)) RX7 hI (by decide) rfl rfl (Nat.le_of_ble_eq_true rfl) rfl rfl (fun p e s m args below meth c X Y => ?_)
  unfold m_X7_setLimits at hf
  refine j_aload_n X 0 dX7_setLimits_0 rfl rfl ?_
  refine j_get (ref := "ProxyVersions") (index := 37) (v := .ref (ad 477)) X oPV inX7_setLimits_X7 rfl 3 (by decide) (List.mem_of_getElem? (i := 1) rfl) rfl rfl dX7_setLimits_1 ?_
  refine j_aload_n X 0 dX7_setLimits_4 rfl rfl ?_
  refine j_get (ref := "ProxyVersions") (index := 12) (v := .ref (ad 50)) X oPV inX7_setLimits_X7 rfl 0 (by decide) (List.mem_of_getElem? (i := 2) rfl) rfl rfl dX7_setLimits_5 ?_
  obtain ⟨o1, ho1, hf⟩ := f_bd hf
  refine j_callVv X oHi rfl rfl [.ref (ad 50)] (c_X1_stage X.2.2.2.2.2.2.2 ho1) (cwV 1 X.2.2.2.2.1 gX7_setLimits_X1_stage rfl rfl rfl (by decide +kernel) ⟨Nat.le_of_ble_eq_true rfl, Nat.le_of_ble_eq_true rfl⟩) rfl rfl (Nat.le_of_ble_eq_true rfl) dX7_setLimits_8 ?_
  refine j_aload_n X 0 dX7_setLimits_11 rfl rfl ?_
  refine j_aload_n X 0 dX7_setLimits_12 rfl rfl ?_
  refine j_get (ref := "ProxyVersions") (index := 30) (v := .ref (ad 476)) X oPV inX7_setLimits_X7 rfl 2 (by decide) (List.mem_of_getElem? (i := 3) rfl) rfl rfl dX7_setLimits_13 ?_
  refine j_iload_n X 1 dX7_setLimits_16 rfl rfl ?_
  refine j_iload_n X 2 dX7_setLimits_17 rfl rfl ?_
  obtain ⟨o2, ho2, hf⟩ := f_bd hf
  refine j_callVi X oNe rfl rfl [.int x1, .int x2] (c_X3_changeLimits X.2.2.2.2.2.2.2 ho2) (cwV 2 X.2.2.2.2.1 gX7_setLimits_X3_changeLimits rfl rfl rfl (by decide +kernel) ⟨Nat.le_of_ble_eq_true rfl, Nat.le_of_ble_eq_true rfl⟩) rfl rfl (Nat.le_of_ble_eq_true rfl) dX7_setLimits_18 ?_
  obtain ⟨o3, ho3, hf⟩ := f_bd hf
  refine j_callVi X oPV rfl rfl [.int o2.1] (c_X7_commitIfDone X.2.2.2.2.2.2.2 ho3) (cwV 1 X.2.2.2.2.1 gX7_setLimits_X7_commitIfDone rfl rfl rfl (by decide +kernel) ⟨Nat.le_of_ble_eq_true rfl, Nat.le_of_ble_eq_true rfl⟩) rfl rfl (Nat.le_of_ble_eq_true rfl) dX7_setLimits_21 ?_
  exact j_iret X Y (f_p1 hf) (f_p2 hf) dX7_setLimits_24
abbrev rmX7_proxy : Room := { frames := 4, cells := 0, slots := 0, locals := 83 }
theorem inX7_proxy_X7 : ∀ w ∈ wsX70, w ∈ wsX7_proxy := fun _ h => List.mem_cons_of_mem _ (List.mem_append_left _ (List.mem_append_left _ (List.mem_append_left _ (List.mem_append_right _ h))))
set_option maxRecDepth 100000 in
set_option maxHeartbeats 4000000 in
theorem c_X7_proxy (hI : Inj 490 ad) {x1 : Int32} {x2 : Int32} {w : Wd} {out : Int32 × Wd} (hf : m_X7_proxy x1 x2 w = some out) : Met l yX7_proxy wsX7_proxy rmX7_proxy (va_Pc [.ref (ad 472), .int x1, .int x2] (PW D (tC cI cL cS) 490 ad (cellC cI cL cS ad) w)) (QWi D 490 ad (cellC cI cL cS ad) out.1 out.2) 0 0 (AW 490 ad) := by
  refine mk_met (maxL := 3) (ret := (some .int)) RX7 hI (by decide) rfl rfl (Nat.le_of_ble_eq_true rfl) rfl rfl (fun p e s m args below meth c X Y => ?_)
  unfold m_X7_proxy at hf
  refine j_aload_n X 0 dX7_proxy_0 rfl rfl ?_
  refine j_get (ref := "ProxyVersions") (index := 12) (v := .ref (ad 50)) X oPV inX7_proxy_X7 rfl 0 (by decide) (List.mem_of_getElem? (i := 1) rfl) rfl rfl dX7_proxy_1 ?_
  refine j_iload_n X 1 dX7_proxy_4 rfl rfl ?_
  obtain ⟨o1, ho1, hf⟩ := f_bd hf
  refine j_callVi X oS0 rfl rfl [.int x1] (c_X5_hasProxy X.2.2.2.2.2.2.2 ho1) (cwV 1 X.2.2.2.2.1 gX7_proxy_X5_hasProxy rfl rfl rfl (by decide +kernel) ⟨Nat.le_of_ble_eq_true rfl, Nat.le_of_ble_eq_true rfl⟩) rfl rfl (Nat.le_of_ble_eq_true rfl) dX7_proxy_5 ?_
  refine j_if_ne (tgt := 13) X dX7_proxy_8 (by decide) (fun c => ?_) (fun c => ?_)
  · replace hf := f_t c hf
    refine j_iload_n X 2 dX7_proxy_13 rfl rfl ?_
    by_cases c_0 : x2 = (nI 0)
    · replace hf := f_t c_0 hf
      refine j_tin (tgt := 60) (off := 46) X dX7_proxy_14 (by rw [c_0]; decide) (by rw [c_0]; decide) (by rw [c_0]; decide) (by decide) ?_
      refine j_iload_n X 1 dX7_proxy_60 rfl rfl ?_
      refine j_if_ne (tgt := 69) X dX7_proxy_61 (by decide) (fun c => ?_) (fun c => ?_)
      · replace hf := f_t c hf
        refine j_aload_n X 0 dX7_proxy_69 rfl rfl ?_
        refine j_get (ref := "ProxyVersions") (index := 12) (v := .ref (ad 50)) X oPV inX7_proxy_X7 rfl 0 (by decide) (List.mem_of_getElem? (i := 1) rfl) rfl rfl dX7_proxy_70 ?_
        refine j_iload_n X 1 dX7_proxy_73 rfl rfl ?_
        obtain ⟨o2, ho2, hf⟩ := f_bd hf
        refine j_callVi X oS0 rfl rfl [.int x1] (c_X5_parentOf X.2.2.2.2.2.2.2 ho2) (cwV 1 X.2.2.2.2.1 gX7_proxy_X5_parentOf rfl rfl rfl (by decide +kernel) ⟨Nat.le_of_ble_eq_true rfl, Nat.le_of_ble_eq_true rfl⟩) rfl rfl (Nat.le_of_ble_eq_true rfl) dX7_proxy_74 ?_
        exact j_iret X Y (f_p1 hf) (f_p2 hf) dX7_proxy_77
      replace hf := f_fn c hf
      refine j_bipush X (v := (-9 : Int32)) (by decide) dX7_proxy_64 ?_
      refine j_goto (tgt := 77) X dX7_proxy_66 (by decide) ?_
      exact j_iret X Y (f_p1 hf) (f_p2 hf) dX7_proxy_77
    replace hf := f_f c_0 hf
    by_cases c_1 : x2 = (nI 1)
    · replace hf := f_t c_1 hf
      refine j_tin (tgt := 78) (off := 64) X dX7_proxy_14 (by rw [c_1]; decide) (by rw [c_1]; decide) (by rw [c_1]; decide) (by decide) ?_
      refine j_aload_n X 0 dX7_proxy_78 rfl rfl ?_
      refine j_get (ref := "ProxyVersions") (index := 12) (v := .ref (ad 50)) X oPV inX7_proxy_X7 rfl 0 (by decide) (List.mem_of_getElem? (i := 1) rfl) rfl rfl dX7_proxy_79 ?_
      refine j_iload_n X 1 dX7_proxy_82 rfl rfl ?_
      obtain ⟨o3, ho3, hf⟩ := f_bd hf
      refine j_callVi X oS0 rfl rfl [.int x1] (c_X5_stepsToRoot X.2.2.2.2.2.2.2 ho3) (cwV 1 X.2.2.2.2.1 gX7_proxy_X5_stepsToRoot rfl rfl rfl (by decide +kernel) ⟨Nat.le_of_ble_eq_true rfl, Nat.le_of_ble_eq_true rfl⟩) rfl rfl (Nat.le_of_ble_eq_true rfl) dX7_proxy_83 ?_
      exact j_iret X Y (f_p1 hf) (f_p2 hf) dX7_proxy_86
    replace hf := f_f c_1 hf
    by_cases c_2 : x2 = (nI 2)
    · replace hf := f_t c_2 hf
      refine j_tin (tgt := 87) (off := 73) X dX7_proxy_14 (by rw [c_2]; decide) (by rw [c_2]; decide) (by rw [c_2]; decide) (by decide) ?_
      refine j_aload_n X 0 dX7_proxy_87 rfl rfl ?_
      refine j_get (ref := "ProxyVersions") (index := 12) (v := .ref (ad 50)) X oPV inX7_proxy_X7 rfl 0 (by decide) (List.mem_of_getElem? (i := 1) rfl) rfl rfl dX7_proxy_88 ?_
      refine j_iload_n X 1 dX7_proxy_91 rfl rfl ?_
      obtain ⟨o4, ho4, hf⟩ := f_bd hf
      refine j_callVi X oS0 rfl rfl [.int x1] (c_X5_childrenOf X.2.2.2.2.2.2.2 ho4) (cwV 1 X.2.2.2.2.1 gX7_proxy_X5_childrenOf rfl rfl rfl (by decide +kernel) ⟨Nat.le_of_ble_eq_true rfl, Nat.le_of_ble_eq_true rfl⟩) rfl rfl (Nat.le_of_ble_eq_true rfl) dX7_proxy_92 ?_
      exact j_iret X Y (f_p1 hf) (f_p2 hf) dX7_proxy_95
    replace hf := f_f c_2 hf
    by_cases c_3 : x2 = (nI 3)
    · replace hf := f_t c_3 hf
      refine j_tin (tgt := 96) (off := 82) X dX7_proxy_14 (by rw [c_3]; decide) (by rw [c_3]; decide) (by rw [c_3]; decide) (by decide) ?_
      refine j_aload_n X 0 dX7_proxy_96 rfl rfl ?_
      refine j_get (ref := "ProxyVersions") (index := 12) (v := .ref (ad 50)) X oPV inX7_proxy_X7 rfl 0 (by decide) (List.mem_of_getElem? (i := 1) rfl) rfl rfl dX7_proxy_97 ?_
      refine j_iload_n X 1 dX7_proxy_100 rfl rfl ?_
      obtain ⟨o5, ho5, hf⟩ := f_bd hf
      refine j_callVi X oS0 rfl rfl [.int x1] (c_X5_knownCount X.2.2.2.2.2.2.2 ho5) (cwV 1 X.2.2.2.2.1 gX7_proxy_X5_knownCount rfl rfl rfl (by decide +kernel) ⟨Nat.le_of_ble_eq_true rfl, Nat.le_of_ble_eq_true rfl⟩) rfl rfl (Nat.le_of_ble_eq_true rfl) dX7_proxy_101 ?_
      exact j_iret X Y (f_p1 hf) (f_p2 hf) dX7_proxy_104
    replace hf := f_f c_3 hf
    by_cases c_4 : x2 = (nI 4)
    · replace hf := f_t c_4 hf
      refine j_tin (tgt := 105) (off := 91) X dX7_proxy_14 (by rw [c_4]; decide) (by rw [c_4]; decide) (by rw [c_4]; decide) (by decide) ?_
      refine j_aload_n X 0 dX7_proxy_105 rfl rfl ?_
      refine j_get (ref := "ProxyVersions") (index := 21) (v := .ref (ad 473)) X oPV inX7_proxy_X7 rfl 1 (by decide) (List.mem_of_getElem? (i := 2) rfl) rfl rfl dX7_proxy_106 ?_
      refine j_iload_n X 1 dX7_proxy_109 rfl rfl ?_
      obtain ⟨o6, ho6, hf⟩ := f_bd hf
      refine j_callVi X oCa rfl rfl [.int x1] (c_X0_servedCount X.2.2.2.2.2.2.2 ho6) (cwV 1 X.2.2.2.2.1 gX7_proxy_X0_servedCount rfl rfl rfl (by decide +kernel) ⟨Nat.le_of_ble_eq_true rfl, Nat.le_of_ble_eq_true rfl⟩) rfl rfl (Nat.le_of_ble_eq_true rfl) dX7_proxy_110 ?_
      exact j_iret X Y (f_p1 hf) (f_p2 hf) dX7_proxy_113
    replace hf := f_f c_4 hf
    by_cases c_5 : x2 = (nI 5)
    · replace hf := f_t c_5 hf
      refine j_tin (tgt := 114) (off := 100) X dX7_proxy_14 (by rw [c_5]; decide) (by rw [c_5]; decide) (by rw [c_5]; decide) (by decide) ?_
      refine j_aload_n X 0 dX7_proxy_114 rfl rfl ?_
      refine j_get (ref := "ProxyVersions") (index := 12) (v := .ref (ad 50)) X oPV inX7_proxy_X7 rfl 0 (by decide) (List.mem_of_getElem? (i := 1) rfl) rfl rfl dX7_proxy_115 ?_
      refine j_iload_n X 1 dX7_proxy_118 rfl rfl ?_
      obtain ⟨o7, ho7, hf⟩ := f_bd hf
      refine j_callVr X oS0 rfl rfl [.int x1] (c_X5_contentsOf X.2.2.2.2.2.2.2 ho7) (cwV 1 X.2.2.2.2.1 gX7_proxy_X5_contentsOf rfl rfl rfl (by decide +kernel) ⟨Nat.le_of_ble_eq_true rfl, Nat.le_of_ble_eq_true rfl⟩) rfl rfl (Nat.le_of_ble_eq_true rfl) dX7_proxy_119 ?_
      have hlo7 := ln_X5_contentsOf ho7
      obtain ⟨o8, ho8, hf⟩ := f_bd hf
      refine j_callVi X (oLn hlo7) rfl rfl [] (c_X2_length X.2.2.2.2.2.2.2 hlo7 ho8) (cwV 0 X.2.2.2.2.1 gX7_proxy_X2_length rfl rfl rfl (by decide +kernel) ⟨Nat.le_of_ble_eq_true rfl, Nat.le_of_ble_eq_true rfl⟩) rfl rfl (Nat.le_of_ble_eq_true rfl) dX7_proxy_122 ?_
      exact j_iret X Y (f_p1 hf) (f_p2 hf) dX7_proxy_125
    replace hf := f_f c_5 hf
    by_cases c_6 : x2 = (nI 6)
    · replace hf := f_t c_6 hf
      refine j_tin (tgt := 126) (off := 112) X dX7_proxy_14 (by rw [c_6]; decide) (by rw [c_6]; decide) (by rw [c_6]; decide) (by decide) ?_
      refine j_aload_n X 0 dX7_proxy_126 rfl rfl ?_
      refine j_get (ref := "ProxyVersions") (index := 12) (v := .ref (ad 50)) X oPV inX7_proxy_X7 rfl 0 (by decide) (List.mem_of_getElem? (i := 1) rfl) rfl rfl dX7_proxy_127 ?_
      refine j_iload_n X 1 dX7_proxy_130 rfl rfl ?_
      obtain ⟨o9, ho9, hf⟩ := f_bd hf
      refine j_callVi X oS0 rfl rfl [.int x1] (c_X5_vectorSize X.2.2.2.2.2.2.2 ho9) (cwV 1 X.2.2.2.2.1 gX7_proxy_X5_vectorSize rfl rfl rfl (by decide +kernel) ⟨Nat.le_of_ble_eq_true rfl, Nat.le_of_ble_eq_true rfl⟩) rfl rfl (Nat.le_of_ble_eq_true rfl) dX7_proxy_131 ?_
      exact j_iret X Y (f_p1 hf) (f_p2 hf) dX7_proxy_134
    replace hf := f_f c_6 hf
    by_cases c_7 : x2 = (nI 7)
    · replace hf := f_t c_7 hf
      refine j_tin (tgt := 135) (off := 121) X dX7_proxy_14 (by rw [c_7]; decide) (by rw [c_7]; decide) (by rw [c_7]; decide) (by decide) ?_
      refine j_aload_n X 0 dX7_proxy_135 rfl rfl ?_
      refine j_get (ref := "ProxyVersions") (index := 12) (v := .ref (ad 50)) X oPV inX7_proxy_X7 rfl 0 (by decide) (List.mem_of_getElem? (i := 1) rfl) rfl rfl dX7_proxy_136 ?_
      refine j_iload_n X 1 dX7_proxy_139 rfl rfl ?_
      obtain ⟨o10, ho10, hf⟩ := f_bd hf
      refine j_callVi X oS0 rfl rfl [.int x1] (c_X5_exceptionCount X.2.2.2.2.2.2.2 ho10) (cwV 1 X.2.2.2.2.1 gX7_proxy_X5_exceptionCount rfl rfl rfl (by decide +kernel) ⟨Nat.le_of_ble_eq_true rfl, Nat.le_of_ble_eq_true rfl⟩) rfl rfl (Nat.le_of_ble_eq_true rfl) dX7_proxy_140 ?_
      exact j_iret X Y (f_p1 hf) (f_p2 hf) dX7_proxy_143
    replace hf := f_f c_7 hf
    have hsw : (x2).toInt < 0 ∨ 7 < (x2).toInt := by
      rcases Int.lt_or_le (x2).toInt 0 with h | h
      · exact Or.inl h
      rcases Int.lt_or_le 7 (x2).toInt with h2 | h2
      · exact Or.inr h2
      exfalso
      have h3 : (x2).toInt = 0 ∨ (x2).toInt = 1 ∨ (x2).toInt = 2 ∨ (x2).toInt = 3 ∨ (x2).toInt = 4 ∨ (x2).toInt = 5 ∨ (x2).toInt = 6 ∨ (x2).toInt = 7 := by omega
      rcases h3 with h3 | h3 | h3 | h3 | h3 | h3 | h3 | h3
      · exact c_0 (Int32.toInt_inj.mp (h3.trans (by decide)))
      · exact c_1 (Int32.toInt_inj.mp (h3.trans (by decide)))
      · exact c_2 (Int32.toInt_inj.mp (h3.trans (by decide)))
      · exact c_3 (Int32.toInt_inj.mp (h3.trans (by decide)))
      · exact c_4 (Int32.toInt_inj.mp (h3.trans (by decide)))
      · exact c_5 (Int32.toInt_inj.mp (h3.trans (by decide)))
      · exact c_6 (Int32.toInt_inj.mp (h3.trans (by decide)))
      · exact c_7 (Int32.toInt_inj.mp (h3.trans (by decide)))
    refine j_tout (tgt := 144) X dX7_proxy_14 hsw (by decide) ?_
    refine j_iconst X (v := (-1 : Int32)) (by decide) dX7_proxy_144 ?_
    exact j_iret X Y (f_p1 hf) (f_p2 hf) dX7_proxy_145
  replace hf := f_fn c hf
  refine j_iconst X (v := (-1 : Int32)) (by decide) dX7_proxy_11 ?_
  exact j_iret X Y (f_p1 hf) (f_p2 hf) dX7_proxy_12
abbrev rmX7_count : Room := { frames := 2, cells := 0, slots := 0, locals := 43 }
theorem inX7_count_X5 : ∀ w ∈ wsX50, w ∈ wsX7_count := fun _ h => List.mem_cons_of_mem _ (List.mem_append_left _ (List.mem_append_right _ h))
theorem inX7_count_X7 : ∀ w ∈ wsX70, w ∈ wsX7_count := fun _ h => List.mem_cons_of_mem _ (List.mem_append_left _ (List.mem_append_left _ (List.mem_append_right _ h)))
set_option maxRecDepth 100000 in
set_option maxHeartbeats 4000000 in
theorem c_X7_count (hI : Inj 490 ad) {x1 : Int32} {w : Wd} {out : Int32} (hf : m_X7_count x1 w = some out) : Met l yX7_count wsX7_count rmX7_count (va_Pc [.ref (ad 472), .int x1] (PW D (tC cI cL cS) 490 ad (cellC cI cL cS ad) w)) (QWi D 490 ad (cellC cI cL cS ad) out w) 0 0 (AW 490 ad) := by
  refine mk_met (maxL := 2) (ret := (some .int)) RX7 hI (by decide) rfl rfl (Nat.le_of_ble_eq_true rfl) rfl rfl (fun p e s m args below meth c X Y => ?_)
  unfold m_X7_count at hf
  refine j_iload_n X 1 dX7_count_0 rfl rfl ?_
  by_cases c_0 : x1 = (nI 0)
  · replace hf := f_t c_0 hf
    refine j_tin (tgt := 52) (off := 51) X dX7_count_1 (by rw [c_0]; decide) (by rw [c_0]; decide) (by rw [c_0]; decide) (by decide) ?_
    refine j_aload_n X 0 dX7_count_52 rfl rfl ?_
    refine j_get (ref := "ProxyVersions") (index := 12) (v := .ref (ad 50)) X oPV inX7_count_X7 rfl 0 (by decide) (List.mem_of_getElem? (i := 1) rfl) rfl rfl dX7_count_53 ?_
    refine j_getN (ref := "ProxyVersions$State") (index := 107) (host := "ProxyVersions") (v := .int (w 50 0)) X oS0 inX7_count_X5 rfl 0 (by decide) (List.mem_of_getElem? (i := 0) rfl) rfl rfl dX7_count_56 ?_
    exact j_iret X Y (f_s hf) rfl dX7_count_59
  replace hf := f_f c_0 hf
  by_cases c_1 : x1 = (nI 1)
  · replace hf := f_t c_1 hf
    refine j_tin (tgt := 60) (off := 59) X dX7_count_1 (by rw [c_1]; decide) (by rw [c_1]; decide) (by rw [c_1]; decide) (by decide) ?_
    refine j_aload_n X 0 dX7_count_60 rfl rfl ?_
    refine j_get (ref := "ProxyVersions") (index := 12) (v := .ref (ad 50)) X oPV inX7_count_X7 rfl 0 (by decide) (List.mem_of_getElem? (i := 1) rfl) rfl rfl dX7_count_61 ?_
    refine j_getN (ref := "ProxyVersions$State") (index := 111) (host := "ProxyVersions") (v := .int (w 50 1)) X oS0 inX7_count_X5 rfl 1 (by decide) (List.mem_of_getElem? (i := 1) rfl) rfl rfl dX7_count_64 ?_
    exact j_iret X Y (f_s hf) rfl dX7_count_67
  replace hf := f_f c_1 hf
  by_cases c_2 : x1 = (nI 2)
  · replace hf := f_t c_2 hf
    refine j_tin (tgt := 68) (off := 67) X dX7_count_1 (by rw [c_2]; decide) (by rw [c_2]; decide) (by rw [c_2]; decide) (by decide) ?_
    refine j_aload_n X 0 dX7_count_68 rfl rfl ?_
    refine j_get (ref := "ProxyVersions") (index := 12) (v := .ref (ad 50)) X oPV inX7_count_X7 rfl 0 (by decide) (List.mem_of_getElem? (i := 1) rfl) rfl rfl dX7_count_69 ?_
    refine j_getN (ref := "ProxyVersions$State") (index := 114) (host := "ProxyVersions") (v := .int (w 50 2)) X oS0 inX7_count_X5 rfl 2 (by decide) (List.mem_of_getElem? (i := 2) rfl) rfl rfl dX7_count_72 ?_
    exact j_iret X Y (f_s hf) rfl dX7_count_75
  replace hf := f_f c_2 hf
  by_cases c_3 : x1 = (nI 3)
  · replace hf := f_t c_3 hf
    refine j_tin (tgt := 76) (off := 75) X dX7_count_1 (by rw [c_3]; decide) (by rw [c_3]; decide) (by rw [c_3]; decide) (by decide) ?_
    refine j_aload_n X 0 dX7_count_76 rfl rfl ?_
    refine j_get (ref := "ProxyVersions") (index := 12) (v := .ref (ad 50)) X oPV inX7_count_X7 rfl 0 (by decide) (List.mem_of_getElem? (i := 1) rfl) rfl rfl dX7_count_77 ?_
    obtain ⟨o1, ho1, hf⟩ := f_bd hf
    refine j_callVi X oS0 rfl rfl [] (c_X5_writtenCount X.2.2.2.2.2.2.2 ho1) (cwV 0 X.2.2.2.2.1 gX7_count_X5_writtenCount rfl rfl rfl (by decide +kernel) ⟨Nat.le_of_ble_eq_true rfl, Nat.le_of_ble_eq_true rfl⟩) rfl rfl (Nat.le_of_ble_eq_true rfl) dX7_count_80 ?_
    exact j_iret X Y (f_s hf) rfl dX7_count_83
  replace hf := f_f c_3 hf
  by_cases c_4 : x1 = (nI 4)
  · replace hf := f_t c_4 hf
    refine j_tin (tgt := 84) (off := 83) X dX7_count_1 (by rw [c_4]; decide) (by rw [c_4]; decide) (by rw [c_4]; decide) (by decide) ?_
    refine j_aload_n X 0 dX7_count_84 rfl rfl ?_
    refine j_get (ref := "ProxyVersions") (index := 12) (v := .ref (ad 50)) X oPV inX7_count_X7 rfl 0 (by decide) (List.mem_of_getElem? (i := 1) rfl) rfl rfl dX7_count_85 ?_
    refine j_getN (ref := "ProxyVersions$State") (index := 120) (host := "ProxyVersions") (v := .int (w 50 3)) X oS0 inX7_count_X5 rfl 3 (by decide) (List.mem_of_getElem? (i := 3) rfl) rfl rfl dX7_count_88 ?_
    exact j_iret X Y (f_s hf) rfl dX7_count_91
  replace hf := f_f c_4 hf
  by_cases c_5 : x1 = (nI 5)
  · replace hf := f_t c_5 hf
    refine j_tin (tgt := 92) (off := 91) X dX7_count_1 (by rw [c_5]; decide) (by rw [c_5]; decide) (by rw [c_5]; decide) (by decide) ?_
    refine j_aload_n X 0 dX7_count_92 rfl rfl ?_
    refine j_get (ref := "ProxyVersions") (index := 12) (v := .ref (ad 50)) X oPV inX7_count_X7 rfl 0 (by decide) (List.mem_of_getElem? (i := 1) rfl) rfl rfl dX7_count_93 ?_
    refine j_getN (ref := "ProxyVersions$State") (index := 123) (host := "ProxyVersions") (v := .int (w 50 4)) X oS0 inX7_count_X5 rfl 4 (by decide) (List.mem_of_getElem? (i := 4) rfl) rfl rfl dX7_count_96 ?_
    exact j_iret X Y (f_s hf) rfl dX7_count_99
  replace hf := f_f c_5 hf
  by_cases c_6 : x1 = (nI 6)
  · replace hf := f_t c_6 hf
    refine j_tin (tgt := 100) (off := 99) X dX7_count_1 (by rw [c_6]; decide) (by rw [c_6]; decide) (by rw [c_6]; decide) (by decide) ?_
    refine j_aload_n X 0 dX7_count_100 rfl rfl ?_
    refine j_get (ref := "ProxyVersions") (index := 12) (v := .ref (ad 50)) X oPV inX7_count_X7 rfl 0 (by decide) (List.mem_of_getElem? (i := 1) rfl) rfl rfl dX7_count_101 ?_
    refine j_getN (ref := "ProxyVersions$State") (index := 126) (host := "ProxyVersions") (v := .int (w 50 5)) X oS0 inX7_count_X5 rfl 5 (by decide) (List.mem_of_getElem? (i := 5) rfl) rfl rfl dX7_count_104 ?_
    exact j_iret X Y (f_s hf) rfl dX7_count_107
  replace hf := f_f c_6 hf
  by_cases c_7 : x1 = (nI 7)
  · replace hf := f_t c_7 hf
    refine j_tin (tgt := 108) (off := 107) X dX7_count_1 (by rw [c_7]; decide) (by rw [c_7]; decide) (by rw [c_7]; decide) (by decide) ?_
    refine j_aload_n X 0 dX7_count_108 rfl rfl ?_
    refine j_get (ref := "ProxyVersions") (index := 12) (v := .ref (ad 50)) X oPV inX7_count_X7 rfl 0 (by decide) (List.mem_of_getElem? (i := 1) rfl) rfl rfl dX7_count_109 ?_
    refine j_getN (ref := "ProxyVersions$State") (index := 129) (host := "ProxyVersions") (v := .int (w 50 6)) X oS0 inX7_count_X5 rfl 6 (by decide) (List.mem_of_getElem? (i := 6) rfl) rfl rfl dX7_count_112 ?_
    exact j_iret X Y (f_s hf) rfl dX7_count_115
  replace hf := f_f c_7 hf
  by_cases c_8 : x1 = (nI 8)
  · replace hf := f_t c_8 hf
    refine j_tin (tgt := 116) (off := 115) X dX7_count_1 (by rw [c_8]; decide) (by rw [c_8]; decide) (by rw [c_8]; decide) (by decide) ?_
    refine j_aload_n X 0 dX7_count_116 rfl rfl ?_
    refine j_get (ref := "ProxyVersions") (index := 37) (v := .ref (ad 477)) X oPV inX7_count_X7 rfl 3 (by decide) (List.mem_of_getElem? (i := 2) rfl) rfl rfl dX7_count_117 ?_
    obtain ⟨o2, ho2, hf⟩ := f_bd hf
    refine j_callVi X oHi rfl rfl [] (c_X1_savedCount X.2.2.2.2.2.2.2 ho2) (cwV 0 X.2.2.2.2.1 gX7_count_X1_savedCount rfl rfl rfl (by decide +kernel) ⟨Nat.le_of_ble_eq_true rfl, Nat.le_of_ble_eq_true rfl⟩) rfl rfl (Nat.le_of_ble_eq_true rfl) dX7_count_120 ?_
    exact j_iret X Y (f_s hf) rfl dX7_count_123
  replace hf := f_f c_8 hf
  have hsw : (x1).toInt < 0 ∨ 8 < (x1).toInt := by
    rcases Int.lt_or_le (x1).toInt 0 with h | h
    · exact Or.inl h
    rcases Int.lt_or_le 8 (x1).toInt with h2 | h2
    · exact Or.inr h2
    exfalso
    have h3 : (x1).toInt = 0 ∨ (x1).toInt = 1 ∨ (x1).toInt = 2 ∨ (x1).toInt = 3 ∨ (x1).toInt = 4 ∨ (x1).toInt = 5 ∨ (x1).toInt = 6 ∨ (x1).toInt = 7 ∨ (x1).toInt = 8 := by omega
    rcases h3 with h3 | h3 | h3 | h3 | h3 | h3 | h3 | h3 | h3
    · exact c_0 (Int32.toInt_inj.mp (h3.trans (by decide)))
    · exact c_1 (Int32.toInt_inj.mp (h3.trans (by decide)))
    · exact c_2 (Int32.toInt_inj.mp (h3.trans (by decide)))
    · exact c_3 (Int32.toInt_inj.mp (h3.trans (by decide)))
    · exact c_4 (Int32.toInt_inj.mp (h3.trans (by decide)))
    · exact c_5 (Int32.toInt_inj.mp (h3.trans (by decide)))
    · exact c_6 (Int32.toInt_inj.mp (h3.trans (by decide)))
    · exact c_7 (Int32.toInt_inj.mp (h3.trans (by decide)))
    · exact c_8 (Int32.toInt_inj.mp (h3.trans (by decide)))
  refine j_tout (tgt := 124) X dX7_count_1 hsw (by decide) ?_
  refine j_iconst X (v := (-1 : Int32)) (by decide) dX7_count_124 ?_
  exact j_iret X Y (f_s hf) rfl dX7_count_125
abbrev rmX7_write : Room := { frames := 5, cells := 0, slots := 0, locals := 124 }
theorem inX7_write_X7 : ∀ w ∈ wsX70, w ∈ wsX7_write := fun _ h => List.mem_cons_of_mem _ (List.mem_append_left _ (List.mem_append_left _ (List.mem_append_left _ (List.mem_append_left _ (List.mem_append_left _ (List.mem_append_right _ h))))))
set_option maxRecDepth 100000 in
set_option maxHeartbeats 4000000 in
theorem c_X7_write (hI : Inj 490 ad) {x1 : Int32} {w : Wd} {out : Int32 × Wd} (hf : m_X7_write x1 w = some out) : Met l yX7_write wsX7_write rmX7_write (va_Pc [.ref (ad 472), .int x1] (PW D (tC cI cL cS) 490 ad (cellC cI cL cS ad) w)) (QWi D 490 ad (cellC cI cL cS ad) out.1 out.2) 0 0 (AW 490 ad) := by
  refine mk_met (maxL := 2) (ret := (some .int)) RX7 hI (by decide) rfl rfl (Nat.le_of_ble_eq_true rfl) rfl rfl (fun p e s m args below meth c X Y => ?_)
  unfold m_X7_write at hf
  refine j_aload_n X 0 dX7_write_0 rfl rfl ?_
  refine j_get (ref := "ProxyVersions") (index := 37) (v := .ref (ad 477)) X oPV inX7_write_X7 rfl 3 (by decide) (List.mem_of_getElem? (i := 1) rfl) rfl rfl dX7_write_1 ?_
  refine j_aload_n X 0 dX7_write_4 rfl rfl ?_
  refine j_get (ref := "ProxyVersions") (index := 12) (v := .ref (ad 50)) X oPV inX7_write_X7 rfl 0 (by decide) (List.mem_of_getElem? (i := 2) rfl) rfl rfl dX7_write_5 ?_
  obtain ⟨o1, ho1, hf⟩ := f_bd hf
  refine j_callVv X oHi rfl rfl [.ref (ad 50)] (c_X1_stage X.2.2.2.2.2.2.2 ho1) (cwV 1 X.2.2.2.2.1 gX7_write_X1_stage rfl rfl rfl (by decide +kernel) ⟨Nat.le_of_ble_eq_true rfl, Nat.le_of_ble_eq_true rfl⟩) rfl rfl (Nat.le_of_ble_eq_true rfl) dX7_write_8 ?_
  refine j_aload_n X 0 dX7_write_11 rfl rfl ?_
  refine j_aload_n X 0 dX7_write_12 rfl rfl ?_
  refine j_get (ref := "ProxyVersions") (index := 30) (v := .ref (ad 476)) X oPV inX7_write_X7 rfl 2 (by decide) (List.mem_of_getElem? (i := 3) rfl) rfl rfl dX7_write_13 ?_
  refine j_iload_n X 1 dX7_write_16 rfl rfl ?_
  obtain ⟨o2, ho2, hf⟩ := f_bd hf
  refine j_callVi X oNe rfl rfl [.int x1] (c_X3_makeWrite X.2.2.2.2.2.2.2 ho2) (cwV 1 X.2.2.2.2.1 gX7_write_X3_makeWrite rfl rfl rfl (by decide +kernel) ⟨Nat.le_of_ble_eq_true rfl, Nat.le_of_ble_eq_true rfl⟩) rfl rfl (Nat.le_of_ble_eq_true rfl) dX7_write_17 ?_
  obtain ⟨o3, ho3, hf⟩ := f_bd hf
  refine j_callVi X oPV rfl rfl [.int o2.1] (c_X7_commitIfDone X.2.2.2.2.2.2.2 ho3) (cwV 1 X.2.2.2.2.1 gX7_write_X7_commitIfDone rfl rfl rfl (by decide +kernel) ⟨Nat.le_of_ble_eq_true rfl, Nat.le_of_ble_eq_true rfl⟩) rfl rfl (Nat.le_of_ble_eq_true rfl) dX7_write_20 ?_
  exact j_iret X Y (f_p1 hf) (f_p2 hf) dX7_write_23
abbrev rmX7_cause : Room := { frames := 2, cells := 0, slots := 0, locals := 43 }
theorem inX7_cause_X7 : ∀ w ∈ wsX70, w ∈ wsX7_cause := fun _ h => List.mem_cons_of_mem _ (List.mem_append_left _ (List.mem_append_right _ h))
set_option maxRecDepth 100000 in
set_option maxHeartbeats 4000000 in
theorem c_X7_cause (hI : Inj 490 ad) {x1 : Int32} {x2 : Int32} {x3 : Int32} {w : Wd} {out : Int32} (hf : m_X7_cause x1 x2 x3 w = some out) : Met l yX7_cause wsX7_cause rmX7_cause (va_Pc [.ref (ad 472), .int x1, .int x2, .int x3] (PW D (tC cI cL cS) 490 ad (cellC cI cL cS ad) w)) (QWi D 490 ad (cellC cI cL cS ad) out w) 0 0 (AW 490 ad) := by
  refine mk_met (maxL := 4) (ret := (some .int)) RX7 hI (by decide) rfl rfl (Nat.le_of_ble_eq_true rfl) rfl rfl (fun p e s m args below meth c X Y => ?_)
  unfold m_X7_cause at hf
  refine j_iload_n X 3 dX7_cause_0 rfl rfl ?_
  obtain ⟨o1, ho1, hf⟩ := f_bd hf
  refine j_callSi X [.int x3] (c_X7_isOrigin X.2.2.2.2.2.2.2 ho1) (va_cwS 1 X.2.2.2.2.1 gX7_cause_X7_isOrigin rfl rfl rfl (by decide +kernel) ⟨Nat.le_of_ble_eq_true rfl, Nat.le_of_ble_eq_true rfl⟩) rfl rfl (Nat.le_of_ble_eq_true rfl) dX7_cause_1 ?_
  refine j_if_eq (tgt := 19) X dX7_cause_4 (by decide) (fun c => ?_) (fun c => ?_)
  · replace hf := f_t c hf
    refine j_iconst X (v := (-1 : Int32)) (by decide) dX7_cause_19 ?_
    exact j_iret X Y (f_s hf) rfl dX7_cause_20
  replace hf := f_f c hf
  refine j_aload_n X 0 dX7_cause_7 rfl rfl ?_
  refine j_get (ref := "ProxyVersions") (index := 12) (v := .ref (ad 50)) X oPV inX7_cause_X7 rfl 0 (by decide) (List.mem_of_getElem? (i := 1) rfl) rfl rfl dX7_cause_8 ?_
  refine j_iload_n X 1 dX7_cause_11 rfl rfl ?_
  refine j_iload_n X 2 dX7_cause_12 rfl rfl ?_
  obtain ⟨o2, ho2, hf⟩ := f_bd hf
  refine j_callVi X oS0 rfl rfl [.int x1, .int x2] (c_X5_wasWritten X.2.2.2.2.2.2.2 ho2) (cwV 2 X.2.2.2.2.1 gX7_cause_X5_wasWritten rfl rfl rfl (by decide +kernel) ⟨Nat.le_of_ble_eq_true rfl, Nat.le_of_ble_eq_true rfl⟩) rfl rfl (Nat.le_of_ble_eq_true rfl) dX7_cause_13 ?_
  refine j_if_ne (tgt := 21) X dX7_cause_16 (by decide) (fun c => ?_) (fun c => ?_)
  · replace hf := f_t c hf
    refine j_aload_n X 0 dX7_cause_21 rfl rfl ?_
    refine j_get (ref := "ProxyVersions") (index := 12) (v := .ref (ad 50)) X oPV inX7_cause_X7 rfl 0 (by decide) (List.mem_of_getElem? (i := 1) rfl) rfl rfl dX7_cause_22 ?_
    refine j_iload_n X 1 dX7_cause_25 rfl rfl ?_
    refine j_iload_n X 2 dX7_cause_26 rfl rfl ?_
    refine j_iload_n X 3 dX7_cause_27 rfl rfl ?_
    obtain ⟨o3, ho3, hf⟩ := f_bd hf
    refine j_callVi X oS0 rfl rfl [.int x1, .int x2, .int x3] (c_X5_causeOf X.2.2.2.2.2.2.2 ho3) (cwV 3 X.2.2.2.2.1 gX7_cause_X5_causeOf rfl rfl rfl (by decide +kernel) ⟨Nat.le_of_ble_eq_true rfl, Nat.le_of_ble_eq_true rfl⟩) rfl rfl (Nat.le_of_ble_eq_true rfl) dX7_cause_28 ?_
    exact j_iret X Y (f_s hf) rfl dX7_cause_31
  replace hf := f_fn c hf
  refine j_iconst X (v := (-1 : Int32)) (by decide) dX7_cause_19 ?_
  exact j_iret X Y (f_s hf) rfl dX7_cause_20
abbrev rmX7_deliver : Room := { frames := 5, cells := 0, slots := 0, locals := 129 }
theorem inX7_deliver_X7 : ∀ w ∈ wsX70, w ∈ wsX7_deliver := fun _ h => List.mem_cons_of_mem _ (List.mem_append_left _ (List.mem_append_left _ (List.mem_append_left _ (List.mem_append_left _ (List.mem_append_left _ (List.mem_append_right _ h))))))
set_option maxRecDepth 100000 in
set_option maxHeartbeats 4000000 in
theorem c_X7_deliver (hI : Inj 490 ad) {x1 : Int32} {x2 : Int32} {x3 : Int32} {w : Wd} {out : Int32 × Wd} (hf : m_X7_deliver x1 x2 x3 w = some out) : Met l yX7_deliver wsX7_deliver rmX7_deliver (va_Pc [.ref (ad 472), .int x1, .int x2, .int x3] (PW D (tC cI cL cS) 490 ad (cellC cI cL cS ad) w)) (QWi D 490 ad (cellC cI cL cS ad) out.1 out.2) 0 0 (AW 490 ad) := by
  refine mk_met (maxL := 4) (ret := (some .int)) RX7 hI (by decide) rfl rfl (Nat.le_of_ble_eq_true rfl) rfl rfl (fun p e s m args below meth c X Y => ?_)
  unfold m_X7_deliver at hf
  refine j_aload_n X 0 dX7_deliver_0 rfl rfl ?_
  refine j_get (ref := "ProxyVersions") (index := 37) (v := .ref (ad 477)) X oPV inX7_deliver_X7 rfl 3 (by decide) (List.mem_of_getElem? (i := 1) rfl) rfl rfl dX7_deliver_1 ?_
  refine j_aload_n X 0 dX7_deliver_4 rfl rfl ?_
  refine j_get (ref := "ProxyVersions") (index := 12) (v := .ref (ad 50)) X oPV inX7_deliver_X7 rfl 0 (by decide) (List.mem_of_getElem? (i := 2) rfl) rfl rfl dX7_deliver_5 ?_
  obtain ⟨o1, ho1, hf⟩ := f_bd hf
  refine j_callVv X oHi rfl rfl [.ref (ad 50)] (c_X1_stage X.2.2.2.2.2.2.2 ho1) (cwV 1 X.2.2.2.2.1 gX7_deliver_X1_stage rfl rfl rfl (by decide +kernel) ⟨Nat.le_of_ble_eq_true rfl, Nat.le_of_ble_eq_true rfl⟩) rfl rfl (Nat.le_of_ble_eq_true rfl) dX7_deliver_8 ?_
  refine j_aload_n X 0 dX7_deliver_11 rfl rfl ?_
  refine j_aload_n X 0 dX7_deliver_12 rfl rfl ?_
  refine j_get (ref := "ProxyVersions") (index := 30) (v := .ref (ad 476)) X oPV inX7_deliver_X7 rfl 2 (by decide) (List.mem_of_getElem? (i := 3) rfl) rfl rfl dX7_deliver_13 ?_
  refine j_iload_n X 1 dX7_deliver_16 rfl rfl ?_
  refine j_iload_n X 2 dX7_deliver_17 rfl rfl ?_
  refine j_iload_n X 3 dX7_deliver_18 rfl rfl ?_
  obtain ⟨o2, ho2, hf⟩ := f_bd hf
  refine j_callVi X oNe rfl rfl [.int x1, .int x2, .int x3] (c_X3_deliverFirst X.2.2.2.2.2.2.2 ho2) (cwV 3 X.2.2.2.2.1 gX7_deliver_X3_deliverFirst rfl rfl rfl (by decide +kernel) ⟨Nat.le_of_ble_eq_true rfl, Nat.le_of_ble_eq_true rfl⟩) rfl rfl (Nat.le_of_ble_eq_true rfl) dX7_deliver_19 ?_
  obtain ⟨o3, ho3, hf⟩ := f_bd hf
  refine j_callVi X oPV rfl rfl [.int o2.1] (c_X7_commitIfDone X.2.2.2.2.2.2.2 ho3) (cwV 1 X.2.2.2.2.1 gX7_deliver_X7_commitIfDone rfl rfl rfl (by decide +kernel) ⟨Nat.le_of_ble_eq_true rfl, Nat.le_of_ble_eq_true rfl⟩) rfl rfl (Nat.le_of_ble_eq_true rfl) dX7_deliver_22 ?_
  exact j_iret X Y (f_p1 hf) (f_p2 hf) dX7_deliver_25
abbrev rmX7_lose : Room := { frames := 4, cells := 0, slots := 0, locals := 124 }
theorem inX7_lose_X7 : ∀ w ∈ wsX70, w ∈ wsX7_lose := fun _ h => List.mem_cons_of_mem _ (List.mem_append_left _ (List.mem_append_left _ (List.mem_append_left _ (List.mem_append_left _ (List.mem_append_right _ h)))))
set_option maxRecDepth 100000 in
set_option maxHeartbeats 4000000 in
theorem c_X7_lose (hI : Inj 490 ad) {x1 : Int32} {x2 : Int32} {x3 : Int32} {w : Wd} {out : Int32 × Wd} (hf : m_X7_lose x1 x2 x3 w = some out) : Met l yX7_lose wsX7_lose rmX7_lose (va_Pc [.ref (ad 472), .int x1, .int x2, .int x3] (PW D (tC cI cL cS) 490 ad (cellC cI cL cS ad) w)) (QWi D 490 ad (cellC cI cL cS ad) out.1 out.2) 0 0 (AW 490 ad) := by
  refine mk_met (maxL := 4) (ret := (some .int)) RX7 hI (by decide) rfl rfl (Nat.le_of_ble_eq_true rfl) rfl rfl (fun p e s m args below meth c X Y => ?_)
  unfold m_X7_lose at hf
  refine j_aload_n X 0 dX7_lose_0 rfl rfl ?_
  refine j_get (ref := "ProxyVersions") (index := 37) (v := .ref (ad 477)) X oPV inX7_lose_X7 rfl 3 (by decide) (List.mem_of_getElem? (i := 1) rfl) rfl rfl dX7_lose_1 ?_
  refine j_aload_n X 0 dX7_lose_4 rfl rfl ?_
  refine j_get (ref := "ProxyVersions") (index := 12) (v := .ref (ad 50)) X oPV inX7_lose_X7 rfl 0 (by decide) (List.mem_of_getElem? (i := 2) rfl) rfl rfl dX7_lose_5 ?_
  obtain ⟨o1, ho1, hf⟩ := f_bd hf
  refine j_callVv X oHi rfl rfl [.ref (ad 50)] (c_X1_stage X.2.2.2.2.2.2.2 ho1) (cwV 1 X.2.2.2.2.1 gX7_lose_X1_stage rfl rfl rfl (by decide +kernel) ⟨Nat.le_of_ble_eq_true rfl, Nat.le_of_ble_eq_true rfl⟩) rfl rfl (Nat.le_of_ble_eq_true rfl) dX7_lose_8 ?_
  refine j_aload_n X 0 dX7_lose_11 rfl rfl ?_
  refine j_aload_n X 0 dX7_lose_12 rfl rfl ?_
  refine j_get (ref := "ProxyVersions") (index := 30) (v := .ref (ad 476)) X oPV inX7_lose_X7 rfl 2 (by decide) (List.mem_of_getElem? (i := 3) rfl) rfl rfl dX7_lose_13 ?_
  refine j_iload_n X 1 dX7_lose_16 rfl rfl ?_
  refine j_iload_n X 2 dX7_lose_17 rfl rfl ?_
  refine j_iload_n X 3 dX7_lose_18 rfl rfl ?_
  obtain ⟨o2, ho2, hf⟩ := f_bd hf
  refine j_callVi X oNe rfl rfl [.int x1, .int x2, .int x3] (c_X3_loseFirst X.2.2.2.2.2.2.2 ho2) (cwV 3 X.2.2.2.2.1 gX7_lose_X3_loseFirst rfl rfl rfl (by decide +kernel) ⟨Nat.le_of_ble_eq_true rfl, Nat.le_of_ble_eq_true rfl⟩) rfl rfl (Nat.le_of_ble_eq_true rfl) dX7_lose_19 ?_
  obtain ⟨o3, ho3, hf⟩ := f_bd hf
  refine j_callVi X oPV rfl rfl [.int o2.1] (c_X7_commitIfDone X.2.2.2.2.2.2.2 ho3) (cwV 1 X.2.2.2.2.1 gX7_lose_X7_commitIfDone rfl rfl rfl (by decide +kernel) ⟨Nat.le_of_ble_eq_true rfl, Nat.le_of_ble_eq_true rfl⟩) rfl rfl (Nat.le_of_ble_eq_true rfl) dX7_lose_22 ?_
  exact j_iret X Y (f_p1 hf) (f_p2 hf) dX7_lose_25
abbrev rmX7_queued : Room := { frames := 2, cells := 0, slots := 0, locals := 43 }
theorem inX7_queued_X7 : ∀ w ∈ wsX70, w ∈ wsX7_queued := fun _ h => List.mem_cons_of_mem _ (List.mem_append_left _ (List.mem_append_left _ (List.mem_append_right _ h)))
set_option maxRecDepth 100000 in
set_option maxHeartbeats 4000000 in
theorem c_X7_queued (hI : Inj 490 ad) {x1 : Int32} {x2 : Int32} {x3 : Int32} {w : Wd} {out : Int32} (hf : m_X7_queued x1 x2 x3 w = some out) : Met l yX7_queued wsX7_queued rmX7_queued (va_Pc [.ref (ad 472), .int x1, .int x2, .int x3] (PW D (tC cI cL cS) 490 ad (cellC cI cL cS ad) w)) (QWi D 490 ad (cellC cI cL cS ad) out w) 0 0 (AW 490 ad) := by
  refine mk_met (maxL := 5) (ret := (some .int)) RX7 hI (by decide) rfl rfl (Nat.le_of_ble_eq_true rfl) rfl rfl (fun p e s m args below meth c X Y => ?_)
  unfold m_X7_queued at hf
  refine j_aload_n X 0 dX7_queued_0 rfl rfl ?_
  refine j_get (ref := "ProxyVersions") (index := 12) (v := .ref (ad 50)) X oPV inX7_queued_X7 rfl 0 (by decide) (List.mem_of_getElem? (i := 1) rfl) rfl rfl dX7_queued_1 ?_
  refine j_iload_n X 1 dX7_queued_4 rfl rfl ?_
  refine j_iload_n X 2 dX7_queued_5 rfl rfl ?_
  obtain ⟨o1, ho1, hf⟩ := f_bd hf
  refine j_callVi X oS0 rfl rfl [.int x1, .int x2] (c_X5_hasQueue X.2.2.2.2.2.2.2 ho1) (cwV 2 X.2.2.2.2.1 gX7_queued_X5_hasQueue rfl rfl rfl (by decide +kernel) ⟨Nat.le_of_ble_eq_true rfl, Nat.le_of_ble_eq_true rfl⟩) rfl rfl (Nat.le_of_ble_eq_true rfl) dX7_queued_6 ?_
  refine j_if_eq (tgt := 17) X dX7_queued_9 (by decide) (fun c => ?_) (fun c => ?_)
  · replace hf := f_t c hf
    refine j_iconst X (v := (-1 : Int32)) (by decide) dX7_queued_17 ?_
    exact j_iret X Y (f_s hf) rfl dX7_queued_18
  replace hf := f_f c hf
  refine j_iload_n X 3 dX7_queued_12 rfl rfl ?_
  refine j_iconst X (v := (-1 : Int32)) (by decide) dX7_queued_13 ?_
  refine j_icmp_ge (tgt := 19) X dX7_queued_14 (by decide) (fun c => ?_) (fun c => ?_)
  · replace hf := f_t c hf
    refine j_aload_n X 0 dX7_queued_19 rfl rfl ?_
    refine j_get (ref := "ProxyVersions") (index := 12) (v := .ref (ad 50)) X oPV inX7_queued_X7 rfl 0 (by decide) (List.mem_of_getElem? (i := 1) rfl) rfl rfl dX7_queued_20 ?_
    refine j_iload_n X 1 dX7_queued_23 rfl rfl ?_
    refine j_iload_n X 2 dX7_queued_24 rfl rfl ?_
    obtain ⟨o2, ho2, hf⟩ := f_bd hf
    refine j_callVr X oS0 rfl rfl [.int x1, .int x2] (c_X5_queueOf X.2.2.2.2.2.2.2 ho2) (cwV 2 X.2.2.2.2.1 gX7_queued_X5_queueOf rfl rfl rfl (by decide +kernel) ⟨Nat.le_of_ble_eq_true rfl, Nat.le_of_ble_eq_true rfl⟩) rfl rfl (Nat.le_of_ble_eq_true rfl) dX7_queued_25 ?_
    have hlo2 := ln_X5_queueOf ho2
    refine j_astore (lv' := [(0, .ref (ad 472)), (1, .int x1), (2, .int x2), (3, .int x3), (4, .ref (ad o2))]) X dX7_queued_28 (by decide) rfl ?_
    refine j_iload_n X 3 dX7_queued_30 rfl rfl ?_
    refine j_iconst X (v := (-1 : Int32)) (by decide) dX7_queued_31 ?_
    refine j_icmp_ne (tgt := 41) X dX7_queued_32 (by decide) (fun c => ?_) (fun c => ?_)
    · replace hf := f_t c hf
      refine j_iload_n X 3 dX7_queued_41 rfl rfl ?_
      refine j_aload X 4 dX7_queued_42 rfl ?_
      obtain ⟨o3, ho3, hf⟩ := f_bd hf
      refine j_callVi X (oLn hlo2) rfl rfl [] (c_X2_length X.2.2.2.2.2.2.2 hlo2 ho3) (cwV 0 X.2.2.2.2.1 gX7_queued_X2_length rfl rfl rfl (by decide +kernel) ⟨Nat.le_of_ble_eq_true rfl, Nat.le_of_ble_eq_true rfl⟩) rfl rfl (Nat.le_of_ble_eq_true rfl) dX7_queued_44 ?_
      refine j_icmp_ge (tgt := 59) X dX7_queued_47 (by decide) (fun c => ?_) (fun c => ?_)
      · replace hf := f_t c hf
        refine j_bipush X (v := (-9 : Int32)) (by decide) dX7_queued_59 ?_
        exact j_iret X Y (f_s hf) rfl dX7_queued_61
      replace hf := f_f c hf
      refine j_aload X 4 dX7_queued_50 rfl ?_
      refine j_iload_n X 3 dX7_queued_52 rfl rfl ?_
      obtain ⟨o4, ho4, hf⟩ := f_bd hf
      refine j_callVi X (oLn hlo2) rfl rfl [.int x3] (c_X2_at X.2.2.2.2.2.2.2 hlo2 ho4) (cwV 1 X.2.2.2.2.1 gX7_queued_X2_at rfl rfl rfl (by decide +kernel) ⟨Nat.le_of_ble_eq_true rfl, Nat.le_of_ble_eq_true rfl⟩) rfl rfl (Nat.le_of_ble_eq_true rfl) dX7_queued_53 ?_
      refine j_goto (tgt := 61) X dX7_queued_56 (by decide) ?_
      exact j_iret X Y (f_s hf) rfl dX7_queued_61
    replace hf := f_fn c hf
    refine j_aload X 4 dX7_queued_35 rfl ?_
    obtain ⟨o5, ho5, hf⟩ := f_bd hf
    refine j_callVi X (oLn hlo2) rfl rfl [] (c_X2_length X.2.2.2.2.2.2.2 hlo2 ho5) (cwV 0 X.2.2.2.2.1 gX7_queued_X2_length rfl rfl rfl (by decide +kernel) ⟨Nat.le_of_ble_eq_true rfl, Nat.le_of_ble_eq_true rfl⟩) rfl rfl (Nat.le_of_ble_eq_true rfl) dX7_queued_37 ?_
    exact j_iret X Y (f_s hf) rfl dX7_queued_40
  replace hf := f_f c hf
  refine j_iconst X (v := (-1 : Int32)) (by decide) dX7_queued_17 ?_
  exact j_iret X Y (f_s hf) rfl dX7_queued_18
abbrev rmX7_served : Room := { frames := 3, cells := 0, slots := 0, locals := 73 }
theorem inX7_served_X7 : ∀ w ∈ wsX70, w ∈ wsX7_served := fun _ h => List.mem_cons_of_mem _ (List.mem_append_left _ (List.mem_append_left _ (List.mem_append_right _ h)))
set_option maxRecDepth 100000 in
set_option maxHeartbeats 4000000 in
theorem c_X7_served (hI : Inj 490 ad) {x1 : Int32} {x2 : Int32} {w : Wd} {out : Int32 × Wd} (hf : m_X7_served x1 x2 w = some out) : Met l yX7_served wsX7_served rmX7_served (va_Pc [.ref (ad 472), .int x1, .int x2] (PW D (tC cI cL cS) 490 ad (cellC cI cL cS ad) w)) (QWi D 490 ad (cellC cI cL cS ad) out.1 out.2) 0 0 (AW 490 ad) := by
  refine mk_met (maxL := 3) (ret := (some .int)) RX7 hI (by decide) rfl rfl (Nat.le_of_ble_eq_true rfl) rfl rfl (fun p e s m args below meth c X Y => ?_)
  unfold m_X7_served at hf
  refine j_aload_n X 0 dX7_served_0 rfl rfl ?_
  refine j_get (ref := "ProxyVersions") (index := 12) (v := .ref (ad 50)) X oPV inX7_served_X7 rfl 0 (by decide) (List.mem_of_getElem? (i := 1) rfl) rfl rfl dX7_served_1 ?_
  refine j_iload_n X 1 dX7_served_4 rfl rfl ?_
  obtain ⟨o1, ho1, hf⟩ := f_bd hf
  refine j_callVi X oS0 rfl rfl [.int x1] (c_X5_hasProxy X.2.2.2.2.2.2.2 ho1) (cwV 1 X.2.2.2.2.1 gX7_served_X5_hasProxy rfl rfl rfl (by decide +kernel) ⟨Nat.le_of_ble_eq_true rfl, Nat.le_of_ble_eq_true rfl⟩) rfl rfl (Nat.le_of_ble_eq_true rfl) dX7_served_5 ?_
  refine j_if_eq (tgt := 18) X dX7_served_8 (by decide) (fun c => ?_) (fun c => ?_)
  · replace hf := f_t c hf
    refine j_iconst X (v := (-1 : Int32)) (by decide) dX7_served_18 ?_
    exact j_iret X Y (f_p1 hf) (f_p2 hf) dX7_served_19
  replace hf := f_f c hf
  refine j_iload_n X 2 dX7_served_11 rfl rfl ?_
  obtain ⟨o2, ho2, hf⟩ := f_bd hf
  refine j_callSi X [.int x2] (c_X7_isOrigin X.2.2.2.2.2.2.2 ho2) (va_cwS 1 X.2.2.2.2.1 gX7_served_X7_isOrigin rfl rfl rfl (by decide +kernel) ⟨Nat.le_of_ble_eq_true rfl, Nat.le_of_ble_eq_true rfl⟩) rfl rfl (Nat.le_of_ble_eq_true rfl) dX7_served_12 ?_
  refine j_if_ne (tgt := 20) X dX7_served_15 (by decide) (fun c => ?_) (fun c => ?_)
  · replace hf := f_t c hf
    refine j_aload_n X 0 dX7_served_20 rfl rfl ?_
    refine j_get (ref := "ProxyVersions") (index := 21) (v := .ref (ad 473)) X oPV inX7_served_X7 rfl 1 (by decide) (List.mem_of_getElem? (i := 2) rfl) rfl rfl dX7_served_21 ?_
    refine j_iload_n X 1 dX7_served_24 rfl rfl ?_
    refine j_iload_n X 2 dX7_served_25 rfl rfl ?_
    obtain ⟨o3, ho3, hf⟩ := f_bd hf
    refine j_callVi X oCa rfl rfl [.int x1, .int x2] (c_X0_servedOf X.2.2.2.2.2.2.2 ho3) (cwV 2 X.2.2.2.2.1 gX7_served_X0_servedOf rfl rfl rfl (by decide +kernel) ⟨Nat.le_of_ble_eq_true rfl, Nat.le_of_ble_eq_true rfl⟩) rfl rfl (Nat.le_of_ble_eq_true rfl) dX7_served_26 ?_
    exact j_iret X Y (f_p1 hf) (f_p2 hf) dX7_served_29
  replace hf := f_fn c hf
  refine j_iconst X (v := (-1 : Int32)) (by decide) dX7_served_18 ?_
  exact j_iret X Y (f_p1 hf) (f_p2 hf) dX7_served_19
abbrev rmX7_status : Room := { frames := 3, cells := 0, slots := 0, locals := 73 }
theorem inX7_status_X7 : ∀ w ∈ wsX70, w ∈ wsX7_status := fun _ h => List.mem_cons_of_mem _ (List.mem_append_left _ (List.mem_append_left _ (List.mem_append_left _ (List.mem_append_right _ h))))
set_option maxRecDepth 100000 in
set_option maxHeartbeats 4000000 in
theorem c_X7_status (hI : Inj 490 ad) {x1 : Int32} {x2 : Int32} {x3 : Int32} {w : Wd} {out : Int32 × Wd} (hf : m_X7_status x1 x2 x3 w = some out) : Met l yX7_status wsX7_status rmX7_status (va_Pc [.ref (ad 472), .int x1, .int x2, .int x3] (PW D (tC cI cL cS) 490 ad (cellC cI cL cS ad) w)) (QWi D 490 ad (cellC cI cL cS ad) out.1 out.2) 0 0 (AW 490 ad) := by
  refine mk_met (maxL := 4) (ret := (some .int)) RX7 hI (by decide) rfl rfl (Nat.le_of_ble_eq_true rfl) rfl rfl (fun p e s m args below meth c X Y => ?_)
  unfold m_X7_status at hf
  refine j_aload_n X 0 dX7_status_0 rfl rfl ?_
  refine j_get (ref := "ProxyVersions") (index := 12) (v := .ref (ad 50)) X oPV inX7_status_X7 rfl 0 (by decide) (List.mem_of_getElem? (i := 1) rfl) rfl rfl dX7_status_1 ?_
  refine j_iload_n X 1 dX7_status_4 rfl rfl ?_
  obtain ⟨o1, ho1, hf⟩ := f_bd hf
  refine j_callVi X oS0 rfl rfl [.int x1] (c_X5_hasProxy X.2.2.2.2.2.2.2 ho1) (cwV 1 X.2.2.2.2.1 gX7_status_X5_hasProxy rfl rfl rfl (by decide +kernel) ⟨Nat.le_of_ble_eq_true rfl, Nat.le_of_ble_eq_true rfl⟩) rfl rfl (Nat.le_of_ble_eq_true rfl) dX7_status_5 ?_
  refine j_if_eq (tgt := 23) X dX7_status_8 (by decide) (fun c => ?_) (fun c => ?_)
  · replace hf := f_t c hf
    refine j_iconst X (v := (-1 : Int32)) (by decide) dX7_status_23 ?_
    exact j_iret X Y (f_p1 hf) (f_p2 hf) dX7_status_24
  replace hf := f_f c hf
  refine j_aload_n X 0 dX7_status_11 rfl rfl ?_
  refine j_get (ref := "ProxyVersions") (index := 12) (v := .ref (ad 50)) X oPV inX7_status_X7 rfl 0 (by decide) (List.mem_of_getElem? (i := 1) rfl) rfl rfl dX7_status_12 ?_
  refine j_iload_n X 2 dX7_status_15 rfl rfl ?_
  refine j_iload_n X 3 dX7_status_16 rfl rfl ?_
  obtain ⟨o2, ho2, hf⟩ := f_bd hf
  refine j_callVi X oS0 rfl rfl [.int x2, .int x3] (c_X5_wasWritten X.2.2.2.2.2.2.2 ho2) (cwV 2 X.2.2.2.2.1 gX7_status_X5_wasWritten rfl rfl rfl (by decide +kernel) ⟨Nat.le_of_ble_eq_true rfl, Nat.le_of_ble_eq_true rfl⟩) rfl rfl (Nat.le_of_ble_eq_true rfl) dX7_status_17 ?_
  refine j_if_ne (tgt := 25) X dX7_status_20 (by decide) (fun c => ?_) (fun c => ?_)
  · replace hf := f_t c hf
    refine j_aload_n X 0 dX7_status_25 rfl rfl ?_
    refine j_get (ref := "ProxyVersions") (index := 12) (v := .ref (ad 50)) X oPV inX7_status_X7 rfl 0 (by decide) (List.mem_of_getElem? (i := 1) rfl) rfl rfl dX7_status_26 ?_
    refine j_iload_n X 1 dX7_status_29 rfl rfl ?_
    refine j_iload_n X 2 dX7_status_30 rfl rfl ?_
    refine j_iload_n X 3 dX7_status_31 rfl rfl ?_
    obtain ⟨o3, ho3, hf⟩ := f_bd hf
    refine j_callVi X oS0 rfl rfl [.int x1, .int x2, .int x3] (c_X5_knows X.2.2.2.2.2.2.2 ho3) (cwV 3 X.2.2.2.2.1 gX7_status_X5_knows rfl rfl rfl (by decide +kernel) ⟨Nat.le_of_ble_eq_true rfl, Nat.le_of_ble_eq_true rfl⟩) rfl rfl (Nat.le_of_ble_eq_true rfl) dX7_status_32 ?_
    refine j_if_ne (tgt := 40) X dX7_status_35 (by decide) (fun c => ?_) (fun c => ?_)
    · replace hf := f_t c hf
      refine j_iload_n X 3 dX7_status_40 rfl rfl ?_
      refine j_aload_n X 0 dX7_status_41 rfl rfl ?_
      refine j_get (ref := "ProxyVersions") (index := 21) (v := .ref (ad 473)) X oPV inX7_status_X7 rfl 1 (by decide) (List.mem_of_getElem? (i := 2) rfl) rfl rfl dX7_status_42 ?_
      refine j_iload_n X 1 dX7_status_45 rfl rfl ?_
      refine j_iload_n X 2 dX7_status_46 rfl rfl ?_
      obtain ⟨o4, ho4, hf⟩ := f_bd hf
      refine j_callVi X oCa rfl rfl [.int x1, .int x2] (c_X0_servedOf X.2.2.2.2.2.2.2 ho4) (cwV 2 X.2.2.2.2.1 gX7_status_X0_servedOf rfl rfl rfl (by decide +kernel) ⟨Nat.le_of_ble_eq_true rfl, Nat.le_of_ble_eq_true rfl⟩) rfl rfl (Nat.le_of_ble_eq_true rfl) dX7_status_47 ?_
      refine j_icmp_le (tgt := 55) X dX7_status_50 (by decide) (fun c => ?_) (fun c => ?_)
      · replace hf := f_t c hf
        refine j_aload_n X 0 dX7_status_55 rfl rfl ?_
        refine j_get (ref := "ProxyVersions") (index := 12) (v := .ref (ad 50)) X oPV inX7_status_X7 rfl 0 (by decide) (List.mem_of_getElem? (i := 1) rfl) rfl rfl dX7_status_56 ?_
        refine j_iload_n X 1 dX7_status_59 rfl rfl ?_
        refine j_iload_n X 2 dX7_status_60 rfl rfl ?_
        refine j_iload_n X 3 dX7_status_61 rfl rfl ?_
        obtain ⟨o5, ho5, hf⟩ := f_bd hf
        refine j_callSi X [.int x2, .int x3] (c_X7_updateOf X.2.2.2.2.2.2.2 ho5) (va_cwS 2 X.2.2.2.2.1 gX7_status_X7_updateOf rfl rfl rfl (by decide +kernel) ⟨Nat.le_of_ble_eq_true rfl, Nat.le_of_ble_eq_true rfl⟩) rfl rfl (Nat.le_of_ble_eq_true rfl) dX7_status_62 ?_
        obtain ⟨o6, ho6, hf⟩ := f_bd hf
        refine j_callVi X oS0 rfl rfl [.int x1, .int o5] (c_X5_keeps X.2.2.2.2.2.2.2 ho6) (cwV 2 X.2.2.2.2.1 gX7_status_X5_keeps rfl rfl rfl (by decide +kernel) ⟨Nat.le_of_ble_eq_true rfl, Nat.le_of_ble_eq_true rfl⟩) rfl rfl (Nat.le_of_ble_eq_true rfl) dX7_status_65 ?_
        refine j_if_eq (tgt := 75) X dX7_status_68 (by decide) (fun c => ?_) (fun c => ?_)
        · replace hf := f_t c hf
          refine j_iconst X (v := (nI 2)) (by decide) dX7_status_75 ?_
          exact j_iret X Y (f_p1 hf) (f_p2 hf) dX7_status_76
        replace hf := f_f c hf
        refine j_iconst X (v := (nI 3)) (by decide) dX7_status_71 ?_
        refine j_goto (tgt := 76) X dX7_status_72 (by decide) ?_
        exact j_iret X Y (f_p1 hf) (f_p2 hf) dX7_status_76
      replace hf := f_f c hf
      refine j_iconst X (v := (nI 1)) (by decide) dX7_status_53 ?_
      exact j_iret X Y (f_p1 hf) (f_p2 hf) dX7_status_54
    replace hf := f_fn c hf
    refine j_iconst X (v := (nI 0)) (by decide) dX7_status_38 ?_
    exact j_iret X Y (f_p1 hf) (f_p2 hf) dX7_status_39
  replace hf := f_fn c hf
  refine j_iconst X (v := (-1 : Int32)) (by decide) dX7_status_23 ?_
  exact j_iret X Y (f_p1 hf) (f_p2 hf) dX7_status_24
abbrev rmX7_missing : Room := { frames := 4, cells := 0, slots := 0, locals := 101 }
theorem inX7_missing_X7 : ∀ w ∈ wsX70, w ∈ wsX7_missing := fun _ h => List.mem_cons_of_mem _ (List.mem_append_left _ (List.mem_append_left _ (List.mem_append_right _ h)))
set_option maxRecDepth 100000 in
set_option maxHeartbeats 4000000 in
theorem c_X7_missing (hI : Inj 490 ad) {x1 : Int32} {x2 : Int32} {x3 : Int32} {w : Wd} {out : Int32 × Wd} (hf : m_X7_missing x1 x2 x3 w = some out) : Met l yX7_missing wsX7_missing rmX7_missing (va_Pc [.ref (ad 472), .int x1, .int x2, .int x3] (PW D (tC cI cL cS) 490 ad (cellC cI cL cS ad) w)) (QWi D 490 ad (cellC cI cL cS ad) out.1 out.2) 0 0 (AW 490 ad) := by
  refine mk_met (maxL := 4) (ret := (some .int)) RX7 hI (by decide) rfl rfl (Nat.le_of_ble_eq_true rfl) rfl rfl (fun p e s m args below meth c X Y => ?_)
  unfold m_X7_missing at hf
  refine j_aload_n X 0 dX7_missing_0 rfl rfl ?_
  refine j_get (ref := "ProxyVersions") (index := 12) (v := .ref (ad 50)) X oPV inX7_missing_X7 rfl 0 (by decide) (List.mem_of_getElem? (i := 1) rfl) rfl rfl dX7_missing_1 ?_
  refine j_iload_n X 1 dX7_missing_4 rfl rfl ?_
  obtain ⟨o1, ho1, hf⟩ := f_bd hf
  refine j_callVi X oS0 rfl rfl [.int x1] (c_X5_hasProxy X.2.2.2.2.2.2.2 ho1) (cwV 1 X.2.2.2.2.1 gX7_missing_X5_hasProxy rfl rfl rfl (by decide +kernel) ⟨Nat.le_of_ble_eq_true rfl, Nat.le_of_ble_eq_true rfl⟩) rfl rfl (Nat.le_of_ble_eq_true rfl) dX7_missing_5 ?_
  refine j_if_eq (tgt := 23) X dX7_missing_8 (by decide) (fun c => ?_) (fun c => ?_)
  · replace hf := f_t c hf
    refine j_iconst X (v := (-1 : Int32)) (by decide) dX7_missing_23 ?_
    exact j_iret X Y (f_p1 hf) (f_p2 hf) dX7_missing_24
  replace hf := f_f c hf
  refine j_aload_n X 0 dX7_missing_11 rfl rfl ?_
  refine j_get (ref := "ProxyVersions") (index := 12) (v := .ref (ad 50)) X oPV inX7_missing_X7 rfl 0 (by decide) (List.mem_of_getElem? (i := 1) rfl) rfl rfl dX7_missing_12 ?_
  refine j_iload_n X 2 dX7_missing_15 rfl rfl ?_
  refine j_iload_n X 3 dX7_missing_16 rfl rfl ?_
  obtain ⟨o2, ho2, hf⟩ := f_bd hf
  refine j_callVi X oS0 rfl rfl [.int x2, .int x3] (c_X5_wasWritten X.2.2.2.2.2.2.2 ho2) (cwV 2 X.2.2.2.2.1 gX7_missing_X5_wasWritten rfl rfl rfl (by decide +kernel) ⟨Nat.le_of_ble_eq_true rfl, Nat.le_of_ble_eq_true rfl⟩) rfl rfl (Nat.le_of_ble_eq_true rfl) dX7_missing_17 ?_
  refine j_if_ne (tgt := 25) X dX7_missing_20 (by decide) (fun c => ?_) (fun c => ?_)
  · replace hf := f_t c hf
    refine j_aload_n X 0 dX7_missing_25 rfl rfl ?_
    refine j_get (ref := "ProxyVersions") (index := 21) (v := .ref (ad 473)) X oPV inX7_missing_X7 rfl 1 (by decide) (List.mem_of_getElem? (i := 2) rfl) rfl rfl dX7_missing_26 ?_
    refine j_iload_n X 1 dX7_missing_29 rfl rfl ?_
    refine j_iload_n X 2 dX7_missing_30 rfl rfl ?_
    refine j_iload_n X 3 dX7_missing_31 rfl rfl ?_
    obtain ⟨o3, ho3, hf⟩ := f_bd hf
    refine j_callVi X oCa rfl rfl [.int x1, .int x2, .int x3] (c_X0_countMissing X.2.2.2.2.2.2.2 ho3) (cwV 3 X.2.2.2.2.1 gX7_missing_X0_countMissing rfl rfl rfl (by decide +kernel) ⟨Nat.le_of_ble_eq_true rfl, Nat.le_of_ble_eq_true rfl⟩) rfl rfl (Nat.le_of_ble_eq_true rfl) dX7_missing_32 ?_
    exact j_iret X Y (f_p1 hf) (f_p2 hf) dX7_missing_35
  replace hf := f_fn c hf
  refine j_iconst X (v := (-1 : Int32)) (by decide) dX7_missing_23 ?_
  exact j_iret X Y (f_p1 hf) (f_p2 hf) dX7_missing_24
abbrev rmX7_kept : Room := { frames := 2, cells := 0, slots := 0, locals := 42 }
theorem inX7_kept_X7 : ∀ w ∈ wsX70, w ∈ wsX7_kept := fun _ h => List.mem_cons_of_mem _ (List.mem_append_left _ (List.mem_append_left _ (List.mem_append_right _ h)))
set_option maxRecDepth 100000 in
set_option maxHeartbeats 4000000 in
theorem c_X7_kept (hI : Inj 490 ad) {x1 : Int32} {x2 : Int32} {w : Wd} {out : Int32} (hf : m_X7_kept x1 x2 w = some out) : Met l yX7_kept wsX7_kept rmX7_kept (va_Pc [.ref (ad 472), .int x1, .int x2] (PW D (tC cI cL cS) 490 ad (cellC cI cL cS ad) w)) (QWi D 490 ad (cellC cI cL cS ad) out w) 0 0 (AW 490 ad) := by
  refine mk_met (maxL := 4) (ret := (some .int)) RX7 hI (by decide) rfl rfl (Nat.le_of_ble_eq_true rfl) rfl rfl (fun p e s m args below meth c X Y => ?_)
  unfold m_X7_kept at hf
  refine j_aload_n X 0 dX7_kept_0 rfl rfl ?_
  refine j_get (ref := "ProxyVersions") (index := 12) (v := .ref (ad 50)) X oPV inX7_kept_X7 rfl 0 (by decide) (List.mem_of_getElem? (i := 1) rfl) rfl rfl dX7_kept_1 ?_
  refine j_iload_n X 1 dX7_kept_4 rfl rfl ?_
  obtain ⟨o1, ho1, hf⟩ := f_bd hf
  refine j_callVi X oS0 rfl rfl [.int x1] (c_X5_hasProxy X.2.2.2.2.2.2.2 ho1) (cwV 1 X.2.2.2.2.1 gX7_kept_X5_hasProxy rfl rfl rfl (by decide +kernel) ⟨Nat.le_of_ble_eq_true rfl, Nat.le_of_ble_eq_true rfl⟩) rfl rfl (Nat.le_of_ble_eq_true rfl) dX7_kept_5 ?_
  refine j_if_eq (tgt := 15) X dX7_kept_8 (by decide) (fun c => ?_) (fun c => ?_)
  · replace hf := f_t c hf
    refine j_iconst X (v := (-1 : Int32)) (by decide) dX7_kept_15 ?_
    exact j_iret X Y (f_s hf) rfl dX7_kept_16
  replace hf := f_f c hf
  refine j_iload_n X 2 dX7_kept_11 rfl rfl ?_
  refine j_if_ge (tgt := 17) X dX7_kept_12 (by decide) (fun c => ?_) (fun c => ?_)
  · replace hf := f_t c hf
    refine j_aload_n X 0 dX7_kept_17 rfl rfl ?_
    refine j_get (ref := "ProxyVersions") (index := 12) (v := .ref (ad 50)) X oPV inX7_kept_X7 rfl 0 (by decide) (List.mem_of_getElem? (i := 1) rfl) rfl rfl dX7_kept_18 ?_
    refine j_iload_n X 1 dX7_kept_21 rfl rfl ?_
    obtain ⟨o2, ho2, hf⟩ := f_bd hf
    refine j_callVr X oS0 rfl rfl [.int x1] (c_X5_contentsOf X.2.2.2.2.2.2.2 ho2) (cwV 1 X.2.2.2.2.1 gX7_kept_X5_contentsOf rfl rfl rfl (by decide +kernel) ⟨Nat.le_of_ble_eq_true rfl, Nat.le_of_ble_eq_true rfl⟩) rfl rfl (Nat.le_of_ble_eq_true rfl) dX7_kept_22 ?_
    have hlo2 := ln_X5_contentsOf ho2
    refine j_astore_n (lv' := [(0, .ref (ad 472)), (1, .int x1), (2, .int x2), (3, .ref (ad o2))]) X dX7_kept_25 rfl (by decide) rfl ?_
    refine j_iload_n X 2 dX7_kept_26 rfl rfl ?_
    refine j_aload_n X 3 dX7_kept_27 rfl rfl ?_
    obtain ⟨o3, ho3, hf⟩ := f_bd hf
    refine j_callVi X (oLn hlo2) rfl rfl [] (c_X2_length X.2.2.2.2.2.2.2 hlo2 ho3) (cwV 0 X.2.2.2.2.1 gX7_kept_X2_length rfl rfl rfl (by decide +kernel) ⟨Nat.le_of_ble_eq_true rfl, Nat.le_of_ble_eq_true rfl⟩) rfl rfl (Nat.le_of_ble_eq_true rfl) dX7_kept_28 ?_
    refine j_icmp_ge (tgt := 42) X dX7_kept_31 (by decide) (fun c => ?_) (fun c => ?_)
    · replace hf := f_t c hf
      refine j_bipush X (v := (-9 : Int32)) (by decide) dX7_kept_42 ?_
      exact j_iret X Y (f_s hf) rfl dX7_kept_44
    replace hf := f_f c hf
    refine j_aload_n X 3 dX7_kept_34 rfl rfl ?_
    refine j_iload_n X 2 dX7_kept_35 rfl rfl ?_
    obtain ⟨o4, ho4, hf⟩ := f_bd hf
    refine j_callVi X (oLn hlo2) rfl rfl [.int x2] (c_X2_at X.2.2.2.2.2.2.2 hlo2 ho4) (cwV 1 X.2.2.2.2.1 gX7_kept_X2_at rfl rfl rfl (by decide +kernel) ⟨Nat.le_of_ble_eq_true rfl, Nat.le_of_ble_eq_true rfl⟩) rfl rfl (Nat.le_of_ble_eq_true rfl) dX7_kept_36 ?_
    refine j_goto (tgt := 44) X dX7_kept_39 (by decide) ?_
    exact j_iret X Y (f_s hf) rfl dX7_kept_44
  replace hf := f_f c hf
  refine j_iconst X (v := (-1 : Int32)) (by decide) dX7_kept_15 ?_
  exact j_iret X Y (f_s hf) rfl dX7_kept_16
abbrev rmX7_read : Room := { frames := 5, cells := 0, slots := 0, locals := 124 }
theorem inX7_read_X7 : ∀ w ∈ wsX70, w ∈ wsX7_read := fun _ h => List.mem_cons_of_mem _ (List.mem_append_left _ (List.mem_append_left _ (List.mem_append_left _ (List.mem_append_left _ (List.mem_append_left _ (List.mem_append_right _ h))))))
set_option maxRecDepth 100000 in
set_option maxHeartbeats 4000000 in
theorem c_X7_read (hI : Inj 490 ad) {x1 : Int32} {x2 : Int32} {x3 : Int32} {w : Wd} {out : Int32 × Wd} (hf : m_X7_read x1 x2 x3 w = some out) : Met l yX7_read wsX7_read rmX7_read (va_Pc [.ref (ad 472), .int x1, .int x2, .int x3] (PW D (tC cI cL cS) 490 ad (cellC cI cL cS ad) w)) (QWi D 490 ad (cellC cI cL cS ad) out.1 out.2) 0 0 (AW 490 ad) := by
  refine mk_met (maxL := 4) (ret := (some .int)) RX7 hI (by decide) rfl rfl (Nat.le_of_ble_eq_true rfl) rfl rfl (fun p e s m args below meth c X Y => ?_)
  unfold m_X7_read at hf
  refine j_aload_n X 0 dX7_read_0 rfl rfl ?_
  refine j_get (ref := "ProxyVersions") (index := 37) (v := .ref (ad 477)) X oPV inX7_read_X7 rfl 3 (by decide) (List.mem_of_getElem? (i := 1) rfl) rfl rfl dX7_read_1 ?_
  refine j_aload_n X 0 dX7_read_4 rfl rfl ?_
  refine j_get (ref := "ProxyVersions") (index := 12) (v := .ref (ad 50)) X oPV inX7_read_X7 rfl 0 (by decide) (List.mem_of_getElem? (i := 2) rfl) rfl rfl dX7_read_5 ?_
  obtain ⟨o1, ho1, hf⟩ := f_bd hf
  refine j_callVv X oHi rfl rfl [.ref (ad 50)] (c_X1_stage X.2.2.2.2.2.2.2 ho1) (cwV 1 X.2.2.2.2.1 gX7_read_X1_stage rfl rfl rfl (by decide +kernel) ⟨Nat.le_of_ble_eq_true rfl, Nat.le_of_ble_eq_true rfl⟩) rfl rfl (Nat.le_of_ble_eq_true rfl) dX7_read_8 ?_
  refine j_aload_n X 0 dX7_read_11 rfl rfl ?_
  refine j_aload_n X 0 dX7_read_12 rfl rfl ?_
  refine j_get (ref := "ProxyVersions") (index := 30) (v := .ref (ad 476)) X oPV inX7_read_X7 rfl 2 (by decide) (List.mem_of_getElem? (i := 3) rfl) rfl rfl dX7_read_13 ?_
  refine j_iload_n X 1 dX7_read_16 rfl rfl ?_
  refine j_iload_n X 2 dX7_read_17 rfl rfl ?_
  refine j_iload_n X 3 dX7_read_18 rfl rfl ?_
  obtain ⟨o2, ho2, hf⟩ := f_bd hf
  refine j_callVi X oNe rfl rfl [.int x1, .int x2, .int x3] (c_X3_fetchContent X.2.2.2.2.2.2.2 ho2) (cwV 3 X.2.2.2.2.1 gX7_read_X3_fetchContent rfl rfl rfl (by decide +kernel) ⟨Nat.le_of_ble_eq_true rfl, Nat.le_of_ble_eq_true rfl⟩) rfl rfl (Nat.le_of_ble_eq_true rfl) dX7_read_19 ?_
  obtain ⟨o3, ho3, hf⟩ := f_bd hf
  refine j_callVi X oPV rfl rfl [.int o2.1] (c_X7_commitIfDone X.2.2.2.2.2.2.2 ho3) (cwV 1 X.2.2.2.2.1 gX7_read_X7_commitIfDone rfl rfl rfl (by decide +kernel) ⟨Nat.le_of_ble_eq_true rfl, Nat.le_of_ble_eq_true rfl⟩) rfl rfl (Nat.le_of_ble_eq_true rfl) dX7_read_22 ?_
  exact j_iret X Y (f_p1 hf) (f_p2 hf) dX7_read_25
abbrev rmX7_ask : Room := { frames := 5, cells := 0, slots := 0, locals := 125 }
theorem inX7_ask_X7 : ∀ w ∈ wsX70, w ∈ wsX7_ask := fun _ h => List.mem_cons_of_mem _ (List.mem_append_left _ (List.mem_append_left _ (List.mem_append_left _ (List.mem_append_left _ (List.mem_append_left _ (List.mem_append_right _ h))))))
set_option maxRecDepth 100000 in
set_option maxHeartbeats 4000000 in
theorem c_X7_ask (hI : Inj 490 ad) {x1 : Int32} {w : Wd} {out : Int32 × Wd} (hf : m_X7_ask x1 w = some out) : Met l yX7_ask wsX7_ask rmX7_ask (va_Pc [.ref (ad 472), .int x1] (PW D (tC cI cL cS) 490 ad (cellC cI cL cS ad) w)) (QWi D 490 ad (cellC cI cL cS ad) out.1 out.2) 0 0 (AW 490 ad) := by
  refine mk_met (maxL := 2) (ret := (some .int)) RX7 hI (by decide) rfl rfl (Nat.le_of_ble_eq_true rfl) rfl rfl (fun p e s m args below meth c X Y => ?_)
  unfold m_X7_ask at hf
  refine j_aload_n X 0 dX7_ask_0 rfl rfl ?_
  refine j_get (ref := "ProxyVersions") (index := 37) (v := .ref (ad 477)) X oPV inX7_ask_X7 rfl 3 (by decide) (List.mem_of_getElem? (i := 1) rfl) rfl rfl dX7_ask_1 ?_
  refine j_aload_n X 0 dX7_ask_4 rfl rfl ?_
  refine j_get (ref := "ProxyVersions") (index := 12) (v := .ref (ad 50)) X oPV inX7_ask_X7 rfl 0 (by decide) (List.mem_of_getElem? (i := 2) rfl) rfl rfl dX7_ask_5 ?_
  obtain ⟨o1, ho1, hf⟩ := f_bd hf
  refine j_callVv X oHi rfl rfl [.ref (ad 50)] (c_X1_stage X.2.2.2.2.2.2.2 ho1) (cwV 1 X.2.2.2.2.1 gX7_ask_X1_stage rfl rfl rfl (by decide +kernel) ⟨Nat.le_of_ble_eq_true rfl, Nat.le_of_ble_eq_true rfl⟩) rfl rfl (Nat.le_of_ble_eq_true rfl) dX7_ask_8 ?_
  refine j_aload_n X 0 dX7_ask_11 rfl rfl ?_
  refine j_aload_n X 0 dX7_ask_12 rfl rfl ?_
  refine j_get (ref := "ProxyVersions") (index := 30) (v := .ref (ad 476)) X oPV inX7_ask_X7 rfl 2 (by decide) (List.mem_of_getElem? (i := 3) rfl) rfl rfl dX7_ask_13 ?_
  refine j_iload_n X 1 dX7_ask_16 rfl rfl ?_
  obtain ⟨o2, ho2, hf⟩ := f_bd hf
  refine j_callVi X oNe rfl rfl [.int x1] (c_X3_askUpward X.2.2.2.2.2.2.2 ho2) (cwV 1 X.2.2.2.2.1 gX7_ask_X3_askUpward rfl rfl rfl (by decide +kernel) ⟨Nat.le_of_ble_eq_true rfl, Nat.le_of_ble_eq_true rfl⟩) rfl rfl (Nat.le_of_ble_eq_true rfl) dX7_ask_17 ?_
  obtain ⟨o3, ho3, hf⟩ := f_bd hf
  refine j_callVi X oPV rfl rfl [.int o2.1] (c_X7_commitIfDone X.2.2.2.2.2.2.2 ho3) (cwV 1 X.2.2.2.2.1 gX7_ask_X7_commitIfDone rfl rfl rfl (by decide +kernel) ⟨Nat.le_of_ble_eq_true rfl, Nat.le_of_ble_eq_true rfl⟩) rfl rfl (Nat.le_of_ble_eq_true rfl) dX7_ask_20 ?_
  exact j_iret X Y (f_p1 hf) (f_p2 hf) dX7_ask_23
abbrev rmX7_upToDate : Room := { frames := 3, cells := 0, slots := 0, locals := 74 }
theorem inX7_upToDate_X5 : ∀ w ∈ wsX50, w ∈ wsX7_upToDate := fun _ h => List.mem_cons_of_mem _ (List.mem_append_left _ (List.mem_append_right _ h))
theorem inX7_upToDate_X7 : ∀ w ∈ wsX70, w ∈ wsX7_upToDate := fun _ h => List.mem_cons_of_mem _ (List.mem_append_left _ (List.mem_append_left _ (List.mem_append_right _ h)))
set_option maxRecDepth 100000 in
set_option maxHeartbeats 4000000 in
theorem t_X7_upToDate_j38 (X : CX p rmX7_upToDate s m args c cX7_upToDate 4 RX7 wsX7_upToDate D (tC cI cL cS) 490 ad) (Y : RX meth (some .int)) {x1 : Int32} {x2 : Int32} {x3 : Int32} {w : Wd} {kc : Int32 → Int32 → Wd → Option (Int32 × Wd)} {out : Int32 × Wd} (hf : m_X7_upToDate_j38 x1 x2 x3 w kc = some out) (hk_kc : ∀ (y2 : Int32) (y3 : Int32) (v : Wd), kc y2 y3 v = some out → WJ p l e rmX7_upToDate s m args below meth c (MQ below (QWi D 490 ad (cellC cI cL cS ad) out.1 out.2) args s 0 0 (AW 490 ad)) 4 D 490 ad (cellC cI cL cS ad) v 12 [(0, .ref (ad 472)), (1, .int x1), (2, .int y2), (3, .int y3)] []) : WJ p l e rmX7_upToDate s m args below meth c (MQ below (QWi D 490 ad (cellC cI cL cS ad) out.1 out.2) args s 0 0 (AW 490 ad)) 4 D 490 ad (cellC cI cL cS ad) w 38 [(0, .ref (ad 472)), (1, .int x1), (2, .int x2), (3, .int x3)] [] := by
  unfold m_X7_upToDate_j38 at hf
  refine j_iinc (v := (x3 + (nI 1))) (lv' := [(0, .ref (ad 472)), (1, .int x1), (2, .int x2), (3, .int (x3 + (nI 1)))]) X 3 dX7_upToDate_38 rfl rfl (by decide) rfl ?_
  refine j_goto (tgt := 12) X dX7_upToDate_41 (by decide) ?_
  exact hk_kc _ _ _ hf
set_option maxRecDepth 100000 in
set_option maxHeartbeats 4000000 in
theorem t_X7_upToDate_L12 (X : CX p rmX7_upToDate s m args c cX7_upToDate 4 RX7 wsX7_upToDate D (tC cI cL cS) 490 ad) (Y : RX meth (some .int)) {x1 : Int32} {out : Int32 × Wd} : ∀ (n : Nat) (x2 : Int32) (x3 : Int32) (w : Wd), m_X7_upToDate_L12 x1 n x2 x3 w = some out → WJ p l e rmX7_upToDate s m args below meth c (MQ below (QWi D 490 ad (cellC cI cL cS ad) out.1 out.2) args s 0 0 (AW 490 ad)) 4 D 490 ad (cellC cI cL cS ad) w 12 [(0, .ref (ad 472)), (1, .int x1), (2, .int x2), (3, .int x3)] [] := by
  intro n
  induction n with
  | zero => intro x2 x3 w hf; exact f_n hf
  | succ n ih =>
    intro x2 x3 w hf
    rw [m_X7_upToDate_L12] at hf
    refine j_iload_n X 3 dX7_upToDate_12 rfl rfl ?_
    refine j_aload_n X 0 dX7_upToDate_13 rfl rfl ?_
    refine j_get (ref := "ProxyVersions") (index := 12) (v := .ref (ad 50)) X oPV inX7_upToDate_X7 rfl 0 (by decide) (List.mem_of_getElem? (i := 1) rfl) rfl rfl dX7_upToDate_14 ?_
    refine j_getN (ref := "ProxyVersions$State") (index := 107) (host := "ProxyVersions") (v := .int (w 50 0)) X oS0 inX7_upToDate_X5 rfl 0 (by decide) (List.mem_of_getElem? (i := 0) rfl) rfl rfl dX7_upToDate_17 ?_
    refine j_icmp_ge (tgt := 44) X dX7_upToDate_20 (by decide) (fun c => ?_) (fun c => ?_)
    · replace hf := f_t c hf
      refine j_iload_n X 2 dX7_upToDate_44 rfl rfl ?_
      exact j_iret X Y (f_p1 hf) (f_p2 hf) dX7_upToDate_45
    replace hf := f_f c hf
    refine j_aload_n X 0 dX7_upToDate_23 rfl rfl ?_
    refine j_get (ref := "ProxyVersions") (index := 21) (v := .ref (ad 473)) X oPV inX7_upToDate_X7 rfl 1 (by decide) (List.mem_of_getElem? (i := 2) rfl) rfl rfl dX7_upToDate_24 ?_
    refine j_iload_n X 3 dX7_upToDate_27 rfl rfl ?_
    obtain ⟨o1, ho1, hf⟩ := f_bd hf
    refine j_callVi X oCa rfl rfl [.int x3] (c_X0_servedCount X.2.2.2.2.2.2.2 ho1) (cwV 1 X.2.2.2.2.1 gX7_upToDate_X0_servedCount rfl rfl rfl (by decide +kernel) ⟨Nat.le_of_ble_eq_true rfl, Nat.le_of_ble_eq_true rfl⟩) rfl rfl (Nat.le_of_ble_eq_true rfl) dX7_upToDate_28 ?_
    refine j_iload_n X 1 dX7_upToDate_31 rfl rfl ?_
    refine j_icmp_ne (tgt := 38) X dX7_upToDate_32 (by decide) (fun c => ?_) (fun c => ?_)
    · replace hf := f_t c hf
      exact t_X7_upToDate_j38 X Y hf ih
    replace hf := f_fn c hf
    refine j_iinc (v := (x2 + (nI 1))) (lv' := [(0, .ref (ad 472)), (1, .int x1), (2, .int (x2 + (nI 1))), (3, .int x3)]) X 2 dX7_upToDate_35 rfl rfl (by decide) rfl ?_
    exact t_X7_upToDate_j38 X Y hf ih
set_option maxRecDepth 100000 in
set_option maxHeartbeats 4000000 in
theorem c_X7_upToDate (hI : Inj 490 ad) {w : Wd} {out : Int32 × Wd} (hf : m_X7_upToDate w = some out) : Met l yX7_upToDate wsX7_upToDate rmX7_upToDate (va_Pc [.ref (ad 472)] (PW D (tC cI cL cS) 490 ad (cellC cI cL cS ad) w)) (QWi D 490 ad (cellC cI cL cS ad) out.1 out.2) 0 0 (AW 490 ad) := by
  refine mk_met (maxL := 4) (ret := (some .int)) RX7 hI (by decide) rfl rfl (Nat.le_of_ble_eq_true rfl) rfl rfl (fun p e s m args below meth c X Y => ?_)
  unfold m_X7_upToDate at hf
  refine j_aload_n X 0 dX7_upToDate_0 rfl rfl ?_
  refine j_get (ref := "ProxyVersions") (index := 12) (v := .ref (ad 50)) X oPV inX7_upToDate_X7 rfl 0 (by decide) (List.mem_of_getElem? (i := 1) rfl) rfl rfl dX7_upToDate_1 ?_
  obtain ⟨o1, ho1, hf⟩ := f_bd hf
  refine j_callVi X oS0 rfl rfl [] (c_X5_writtenCount X.2.2.2.2.2.2.2 ho1) (cwV 0 X.2.2.2.2.1 gX7_upToDate_X5_writtenCount rfl rfl rfl (by decide +kernel) ⟨Nat.le_of_ble_eq_true rfl, Nat.le_of_ble_eq_true rfl⟩) rfl rfl (Nat.le_of_ble_eq_true rfl) dX7_upToDate_4 ?_
  refine j_istore_n (lv' := [(0, .ref (ad 472)), (1, .int o1)]) X dX7_upToDate_7 rfl (by decide) rfl ?_
  refine j_iconst X (v := (nI 0)) (by decide) dX7_upToDate_8 ?_
  refine j_istore_n (lv' := [(0, .ref (ad 472)), (1, .int o1), (2, .int (nI 0))]) X dX7_upToDate_9 rfl (by decide) rfl ?_
  refine j_iconst X (v := (nI 0)) (by decide) dX7_upToDate_10 ?_
  refine j_istore_n (lv' := [(0, .ref (ad 472)), (1, .int o1), (2, .int (nI 0)), (3, .int (nI 0))]) X dX7_upToDate_11 rfl (by decide) rfl ?_
  refine t_X7_upToDate_L12 X Y _ _ _ _ hf
end WALK13
