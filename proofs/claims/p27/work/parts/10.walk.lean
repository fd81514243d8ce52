/-! ===== the bytecode does what the model says (printed by wip/p27/tools/genL.py) ===== -/
section WALK10
variable {p : Program} {l : Launch} {e : Env} {s : State} {m : MethodId} {args : Array Value} {below : List Frame} {meth : Method} {c : Code} {D : va_G} {cI cL cS : ClassId} {ad : Nat → Nat}
abbrev rmX5_knownOf : Room := { frames := 0, cells := 0, slots := 0, locals := 0 }
theorem inX5_knownOf_X5 : ∀ w ∈ wsX50, w ∈ wsX5_knownOf := fun _ h => List.mem_cons_of_mem _ (List.mem_append_right _ h)
set_option maxRecDepth 100000 in
set_option maxHeartbeats 4000000 in
theorem c_X5_knownOf (hI : Inj 490 ad) {x1 : Int32} {x2 : Int32} {w : Wd} {out : Int32} (hf : m_X5_knownOf x1 x2 w = some out) : Met l yX5_knownOf wsX5_knownOf rmX5_knownOf (va_Pc [.ref (ad 50), .int x1, .int x2] (PW D (tC cI cL cS) 490 ad (cellC cI cL cS ad) w)) (QWi D 490 ad (cellC cI cL cS ad) out w) 0 0 (AW 490 ad) := by
  refine mk_met (maxL := 4) (ret := (some .int)) RX5 hI (by decide) rfl rfl (Nat.le_of_ble_eq_true rfl) rfl rfl (fun p e s m args below meth c X Y => ?_)
  unfold m_X5_knownOf at hf
  refine j_iload_n X 1 dX5_knownOf_0 rfl rfl ?_
  refine j_iconst X (v := (nI 4)) (by decide) dX5_knownOf_1 ?_
  refine j_imul X dX5_knownOf_2 ?_
  refine j_iload_n X 2 dX5_knownOf_3 rfl rfl ?_
  refine j_iadd X dX5_knownOf_4 ?_
  obtain ⟨x3_1, ex3_1, hf⟩ := f_lt hf
  refine j_top ex3_1 ?_
  refine j_istore_n (lv' := [(0, .ref (ad 50)), (1, .int x1), (2, .int x2), (3, .int x3_1)]) X dX5_knownOf_5 rfl (by decide) rfl ?_
  refine j_iload_n X 3 dX5_knownOf_6 rfl rfl ?_
  refine j_if_lt (tgt := 28) X dX5_knownOf_7 (by decide) (fun c => ?_) (fun c => ?_)
  · replace hf := f_t c hf
    refine j_iconst X (v := (nI 0)) (by decide) dX5_knownOf_28 ?_
    exact j_iret X Y (f_s hf) rfl dX5_knownOf_29
  replace hf := f_f c hf
  refine j_iload_n X 3 dX5_knownOf_10 rfl rfl ?_
  refine j_aload_n X 0 dX5_knownOf_11 rfl rfl ?_
  refine j_get (ref := "ProxyVersions$State") (index := 31) (v := .ref (ad 54)) X oS0 inX5_knownOf_X5 rfl 10 (by decide) (List.mem_of_getElem? (i := 1) rfl) rfl rfl dX5_knownOf_12 ?_
  refine j_alen X 0 rfl i54 dX5_knownOf_15 ?_
  refine j_icmp_ge (tgt := 28) X dX5_knownOf_16 (by decide) (fun c => ?_) (fun c => ?_)
  · replace hf := f_t c hf
    refine j_iconst X (v := (nI 0)) (by decide) dX5_knownOf_28 ?_
    exact j_iret X Y (f_s hf) rfl dX5_knownOf_29
  replace hf := f_f c hf
  refine j_aload_n X 0 dX5_knownOf_19 rfl rfl ?_
  refine j_get (ref := "ProxyVersions$State") (index := 31) (v := .ref (ad 54)) X oS0 inX5_knownOf_X5 rfl 10 (by decide) (List.mem_of_getElem? (i := 1) rfl) rfl rfl dX5_knownOf_20 ?_
  refine j_iload_n X 3 dX5_knownOf_23 rfl rfl ?_
  obtain ⟨hi2, hf⟩ := f_c hf
  refine j_iald X 0 rfl i54 hi2 dX5_knownOf_24 ?_
  refine j_goto (tgt := 29) X dX5_knownOf_25 (by decide) ?_
  exact j_iret X Y (f_s hf) rfl dX5_knownOf_29
abbrev rmX6_prefixOf : Room := { frames := 0, cells := 0, slots := 0, locals := 0 }
set_option maxRecDepth 100000 in
set_option maxHeartbeats 4000000 in
theorem t_X6_prefixOf_L2 (X : CX p rmX6_prefixOf s m args c cX6_prefixOf 2 RX6 wsX6_prefixOf D (tC cI cL cS) 490 ad) (Y : RX meth (some .int)) {x0 : Int32} {w : Wd} {out : Int32} : ∀ (n : Nat) (x1 : Int32), m_X6_prefixOf_L2 x0 n x1 = some out → WJ p l e rmX6_prefixOf s m args below meth c (MQ below (QWi D 490 ad (cellC cI cL cS ad) out w) args s 0 0 (AW 490 ad)) 2 D 490 ad (cellC cI cL cS ad) w 2 [(0, .int x0), (1, .int x1)] [] := by
  intro n
  induction n with
  | zero => intro x1 hf; exact f_n hf
  | succ n ih =>
    intro x1 hf
    rw [m_X6_prefixOf_L2] at hf
    refine j_iload_n X 1 dX6_prefixOf_2 rfl rfl ?_
    refine j_bipush X (v := (nI 24)) (by decide) dX6_prefixOf_3 ?_
    refine j_icmp_ge (tgt := 22) X dX6_prefixOf_5 (by decide) (fun c => ?_) (fun c => ?_)
    · replace hf := f_t c hf
      refine j_iload_n X 1 dX6_prefixOf_22 rfl rfl ?_
      exact j_iret X Y (f_s hf) rfl dX6_prefixOf_23
    replace hf := f_f c hf
    refine j_iload_n X 0 dX6_prefixOf_8 rfl rfl ?_
    refine j_iload_n X 1 dX6_prefixOf_9 rfl rfl ?_
    refine j_ishr X dX6_prefixOf_10 ?_
    refine j_iconst X (v := (nI 1)) (by decide) dX6_prefixOf_11 ?_
    refine j_iand X dX6_prefixOf_12 ?_
    refine j_if_eq (tgt := 22) X dX6_prefixOf_13 (by decide) (fun c => ?_) (fun c => ?_)
    · replace hf := f_t c hf
      refine j_iload_n X 1 dX6_prefixOf_22 rfl rfl ?_
      exact j_iret X Y (f_s hf) rfl dX6_prefixOf_23
    replace hf := f_f c hf
    refine j_iinc (v := (x1 + (nI 1))) (lv' := [(0, .int x0), (1, .int (x1 + (nI 1)))]) X 1 dX6_prefixOf_16 rfl rfl (by decide) rfl ?_
    refine j_goto (tgt := 2) X dX6_prefixOf_19 (by decide) ?_
    exact ih _ hf
set_option maxRecDepth 100000 in
set_option maxHeartbeats 4000000 in
theorem c_X6_prefixOf (hI : Inj 490 ad) {x0 : Int32} {w : Wd} {out : Int32} (hf : m_X6_prefixOf x0 = some out) : Met l yX6_prefixOf wsX6_prefixOf rmX6_prefixOf (va_Pc [.int x0] (PW D (tC cI cL cS) 490 ad (cellC cI cL cS ad) w)) (QWi D 490 ad (cellC cI cL cS ad) out w) 0 0 (AW 490 ad) := by
  refine mk_met (maxL := 2) (ret := (some .int)) RX6 hI (by decide) rfl rfl (Nat.le_of_ble_eq_true rfl) rfl rfl (fun p e s m args below meth c X Y => ?_)
  unfold m_X6_prefixOf at hf
  refine j_iconst X (v := (nI 0)) (by decide) dX6_prefixOf_0 ?_
  refine j_istore_n (lv' := [(0, .int x0), (1, .int (nI 0))]) X dX6_prefixOf_1 rfl (by decide) rfl ?_
  refine t_X6_prefixOf_L2 X Y _ _ hf
abbrev rmX5_hasCausesIn : Room := { frames := 0, cells := 0, slots := 0, locals := 0 }
theorem inX5_hasCausesIn_X5 : ∀ w ∈ wsX50, w ∈ wsX5_hasCausesIn := fun _ h => List.mem_cons_of_mem _ (List.mem_append_right _ h)
set_option maxRecDepth 100000 in
set_option maxHeartbeats 4000000 in
theorem t_X5_hasCausesIn_L15 (X : CX p rmX5_hasCausesIn s m args c cX5_hasCausesIn 7 RX5 wsX5_hasCausesIn D (tC cI cL cS) 490 ad) (Y : RX meth (some .boolean)) {x4 : Int32} {w : Wd} {out : Int32} : ∀ (n : Nat) (x5 : Int32), m_X5_hasCausesIn_L15 x4 w n x5 = some out → WJ p l e rmX5_hasCausesIn s m args below meth c (MQ below (QWi D 490 ad (cellC cI cL cS ad) out w) args s 0 0 (AW 490 ad)) 7 D 490 ad (cellC cI cL cS ad) w 15 [(0, .ref (ad 50)), (3, .ref (ad 474)), (4, .int x4), (5, .int x5)] [] := by
  intro n
  induction n with
  | zero => intro x5 hf; exact f_n hf
  | succ n ih =>
    intro x5 hf
    rw [m_X5_hasCausesIn_L15] at hf
    refine j_iload X 3 dX5_hasCausesIn_15 rfl ?_
    refine j_iconst X (v := (nI 4)) (by decide) dX5_hasCausesIn_17 ?_
    refine j_icmp_ge (tgt := 72) X dX5_hasCausesIn_18 (by decide) (fun c => ?_) (fun c => ?_)
    · replace hf := f_t c hf
      refine j_iconst X (v := (nI 1)) (by decide) dX5_hasCausesIn_72 ?_
      exact j_bret X Y (Eq.trans (by decide : (nI 1) &&& 1 = (nI 1)) (f_s hf)) rfl dX5_hasCausesIn_73
    replace hf := f_f c hf
    refine j_iload X 2 dX5_hasCausesIn_21 rfl ?_
    refine j_iload X 3 dX5_hasCausesIn_23 rfl ?_
    refine j_iadd X dX5_hasCausesIn_25 ?_
    obtain ⟨x6_1, ex6_1, hf⟩ := f_lt hf
    refine j_top ex6_1 ?_
    refine j_istore (lv' := [(0, .ref (ad 50)), (3, .ref (ad 474)), (4, .int x4), (5, .int x5), (6, .int x6_1)]) X dX5_hasCausesIn_26 (by decide) rfl ?_
    refine j_iload X 4 dX5_hasCausesIn_28 rfl ?_
    refine j_if_lt (tgt := 64) X dX5_hasCausesIn_30 (by decide) (fun c => ?_) (fun c => ?_)
    · replace hf := f_t c hf
      refine j_iconst X (v := (nI 0)) (by decide) dX5_hasCausesIn_64 ?_
      exact j_bret X Y (Eq.trans (by decide : (nI 0) &&& 1 = (nI 0)) (f_s hf)) rfl dX5_hasCausesIn_65
    replace hf := f_f c hf
    refine j_iload X 4 dX5_hasCausesIn_33 rfl ?_
    refine j_aload_n X 0 dX5_hasCausesIn_35 rfl rfl ?_
    refine j_get (ref := "ProxyVersions$State") (index := 34) (v := .ref (ad 55)) X oS0 inX5_hasCausesIn_X5 rfl 11 (by decide) (List.mem_of_getElem? (i := 1) rfl) rfl rfl dX5_hasCausesIn_36 ?_
    refine j_alen X 0 rfl i55 dX5_hasCausesIn_39 ?_
    refine j_icmp_ge (tgt := 64) X dX5_hasCausesIn_40 (by decide) (fun c => ?_) (fun c => ?_)
    · replace hf := f_t c hf
      refine j_iconst X (v := (nI 0)) (by decide) dX5_hasCausesIn_64 ?_
      exact j_bret X Y (Eq.trans (by decide : (nI 0) &&& 1 = (nI 0)) (f_s hf)) rfl dX5_hasCausesIn_65
    replace hf := f_f c hf
    refine j_iload X 3 dX5_hasCausesIn_43 rfl ?_
    refine j_aload_n X 1 dX5_hasCausesIn_45 rfl rfl ?_
    refine j_alen X 0 rfl i474 dX5_hasCausesIn_46 ?_
    refine j_icmp_ge (tgt := 64) X dX5_hasCausesIn_47 (by decide) (fun c => ?_) (fun c => ?_)
    · replace hf := f_t c hf
      refine j_iconst X (v := (nI 0)) (by decide) dX5_hasCausesIn_64 ?_
      exact j_bret X Y (Eq.trans (by decide : (nI 0) &&& 1 = (nI 0)) (f_s hf)) rfl dX5_hasCausesIn_65
    replace hf := f_f c hf
    refine j_aload_n X 0 dX5_hasCausesIn_50 rfl rfl ?_
    refine j_get (ref := "ProxyVersions$State") (index := 34) (v := .ref (ad 55)) X oS0 inX5_hasCausesIn_X5 rfl 11 (by decide) (List.mem_of_getElem? (i := 1) rfl) rfl rfl dX5_hasCausesIn_51 ?_
    refine j_iload X 4 dX5_hasCausesIn_54 rfl ?_
    obtain ⟨hi2, hf⟩ := f_c hf
    refine j_iald X 0 rfl i55 hi2 dX5_hasCausesIn_56 ?_
    refine j_aload_n X 1 dX5_hasCausesIn_57 rfl rfl ?_
    refine j_iload X 3 dX5_hasCausesIn_58 rfl ?_
    obtain ⟨hi3, hf⟩ := f_c hf
    refine j_iald X 0 rfl i474 hi3 dX5_hasCausesIn_60 ?_
    refine j_icmp_le (tgt := 66) X dX5_hasCausesIn_61 (by decide) (fun c => ?_) (fun c => ?_)
    · replace hf := f_t c hf
      refine j_iinc (v := (x5 + (nI 1))) (lv' := [(0, .ref (ad 50)), (3, .ref (ad 474)), (4, .int x4), (5, .int (x5 + (nI 1))), (6, .int x6_1)]) X 3 dX5_hasCausesIn_66 rfl rfl (by decide) rfl ?_
      refine j_goto (tgt := 15) X dX5_hasCausesIn_69 (by decide) ?_
      refine j_sub [0, 1, 2, 3] rfl ?_
      exact ih _ hf
    replace hf := f_f c hf
    refine j_iconst X (v := (nI 0)) (by decide) dX5_hasCausesIn_64 ?_
    exact j_bret X Y (Eq.trans (by decide : (nI 0) &&& 1 = (nI 0)) (f_s hf)) rfl dX5_hasCausesIn_65
set_option maxRecDepth 100000 in
set_option maxHeartbeats 4000000 in
theorem c_X5_hasCausesIn (hI : Inj 490 ad) {x1 : Int32} {x2 : Int32} {w : Wd} {out : Int32} (hf : m_X5_hasCausesIn x1 x2 w = some out) : Met l yX5_hasCausesIn wsX5_hasCausesIn rmX5_hasCausesIn (va_Pc [.ref (ad 50), .int x1, .int x2, .ref (ad 474)] (PW D (tC cI cL cS) 490 ad (cellC cI cL cS ad) w)) (QWi D 490 ad (cellC cI cL cS ad) out w) 0 0 (AW 490 ad) := by
  refine mk_met (maxL := 7) (ret := (some .boolean)) RX5 hI (by decide) rfl rfl (Nat.le_of_ble_eq_true rfl) rfl rfl (fun p e s m args below meth c X Y => ?_)
  unfold m_X5_hasCausesIn at hf
  refine j_iload_n X 1 dX5_hasCausesIn_0 rfl rfl ?_
  refine j_bipush X (v := (nI 24)) (by decide) dX5_hasCausesIn_1 ?_
  refine j_imul X dX5_hasCausesIn_3 ?_
  refine j_iload_n X 2 dX5_hasCausesIn_4 rfl rfl ?_
  refine j_iadd X dX5_hasCausesIn_5 ?_
  refine j_iconst X (v := (nI 1)) (by decide) dX5_hasCausesIn_6 ?_
  refine j_isub X dX5_hasCausesIn_7 ?_
  refine j_iconst X (v := (nI 4)) (by decide) dX5_hasCausesIn_8 ?_
  refine j_imul X dX5_hasCausesIn_9 ?_
  obtain ⟨x4_1, ex4_1, hf⟩ := f_lt hf
  refine j_top ex4_1 ?_
  refine j_istore (lv' := [(0, .ref (ad 50)), (1, .int x1), (2, .int x2), (3, .ref (ad 474)), (4, .int x4_1)]) X dX5_hasCausesIn_10 (by decide) rfl ?_
  refine j_iconst X (v := (nI 0)) (by decide) dX5_hasCausesIn_12 ?_
  refine j_istore (lv' := [(0, .ref (ad 50)), (1, .int x1), (2, .int x2), (3, .ref (ad 474)), (4, .int x4_1), (5, .int (nI 0))]) X dX5_hasCausesIn_13 (by decide) rfl ?_
  refine j_sub [0, 3, 4, 5] rfl ?_
  refine t_X5_hasCausesIn_L15 X Y _ _ hf
abbrev rmX0_findServed : Room := { frames := 1, cells := 0, slots := 0, locals := 26 }
theorem inX0_findServed_X0 : ∀ w ∈ wsX00, w ∈ wsX0_findServed := fun _ h => List.mem_cons_of_mem _ (List.mem_append_left _ (List.mem_append_right _ h))
set_option maxRecDepth 100000 in
set_option maxHeartbeats 4000000 in
theorem t_X0_findServed_L2 (X : CX p rmX0_findServed s m args c cX0_findServed 6 RX0 wsX0_findServed D (tC cI cL cS) 490 ad) (Y : RX meth none) {x1 : Int32} {kx31 : Wd → Option (Wd)} {out : Wd} (hk_kx31 : ∀  (v : Wd), kx31 v = some out → WJ p l e rmX0_findServed s m args below meth c (MQ below (QWv D 490 ad (cellC cI cL cS ad) out) args s 0 0 (AW 490 ad)) 6 D 490 ad (cellC cI cL cS ad) v 31 [(0, .ref (ad 473))] []) : ∀ (n : Nat) (x2 : Int32) (w : Wd), m_X0_findServed_L2 x1 kx31 n x2 w = some out → WJ p l e rmX0_findServed s m args below meth c (MQ below (QWv D 490 ad (cellC cI cL cS ad) out) args s 0 0 (AW 490 ad)) 6 D 490 ad (cellC cI cL cS ad) w 2 [(0, .ref (ad 473)), (1, .int x1), (2, .int x2)] [] := by
  intro n
  induction n with
  | zero => intro x2 w hf; exact f_n hf
  | succ n ih =>
    intro x2 w hf
    rw [m_X0_findServed_L2] at hf
    refine j_iload_n X 2 dX0_findServed_2 rfl rfl ?_
    refine j_iconst X (v := (nI 4)) (by decide) dX0_findServed_3 ?_
    refine j_icmp_ge (tgt := 31) X dX0_findServed_4 (by decide) (fun c => ?_) (fun c => ?_)
    · replace hf := f_t c hf
      refine j_sub [0] rfl ?_
      exact hk_kx31 _ hf
    replace hf := f_f c hf
    refine j_aload_n X 0 dX0_findServed_7 rfl rfl ?_
    refine j_get (ref := "ProxyVersions$Causality") (index := 9) (v := .ref (ad 474)) X oCa inX0_findServed_X0 rfl 1 (by decide) (List.mem_of_getElem? (i := 1) rfl) rfl rfl dX0_findServed_8 ?_
    refine j_iload_n X 2 dX0_findServed_11 rfl rfl ?_
    refine j_aload_n X 0 dX0_findServed_12 rfl rfl ?_
    refine j_get (ref := "ProxyVersions$Causality") (index := 18) (v := .ref (ad 50)) X oCa inX0_findServed_X0 rfl 0 (by decide) (List.mem_of_getElem? (i := 2) rfl) rfl rfl dX0_findServed_13 ?_
    refine j_iload_n X 1 dX0_findServed_16 rfl rfl ?_
    refine j_iload_n X 2 dX0_findServed_17 rfl rfl ?_
    obtain ⟨o1, ho1, hf⟩ := f_bd hf
    refine j_callVi X oS0 rfl rfl [.int x1, .int x2] (c_X5_knownOf X.2.2.2.2.2.2.2 ho1) (cwV 2 X.2.2.2.2.1 gX0_findServed_X5_knownOf rfl rfl rfl (by decide +kernel) ⟨Nat.le_of_ble_eq_true rfl, Nat.le_of_ble_eq_true rfl⟩) rfl rfl (Nat.le_of_ble_eq_true rfl) dX0_findServed_18 ?_
    obtain ⟨o2, ho2, hf⟩ := f_bd hf
    refine j_callSi X [.int o1] (c_X6_prefixOf X.2.2.2.2.2.2.2 ho2) (va_cwS 1 X.2.2.2.2.1 gX0_findServed_X6_prefixOf rfl rfl rfl (by decide +kernel) ⟨Nat.le_of_ble_eq_true rfl, Nat.le_of_ble_eq_true rfl⟩) rfl rfl (Nat.le_of_ble_eq_true rfl) dX0_findServed_21 ?_
    obtain ⟨hi3, hf⟩ := f_c hf
    obtain ⟨w4, ew4, hf⟩ := f_lt hf
    refine j_iast X 0 rfl i474 hi3 dX0_findServed_24 ew4 ?_
    refine j_iinc (v := (x2 + (nI 1))) (lv' := [(0, .ref (ad 473)), (1, .int x1), (2, .int (x2 + (nI 1)))]) X 2 dX0_findServed_25 rfl rfl (by decide) rfl ?_
    refine j_goto (tgt := 2) X dX0_findServed_28 (by decide) ?_
    exact ih _ _ hf
set_option maxRecDepth 100000 in
set_option maxHeartbeats 4000000 in
theorem t_X0_findServed_L59 (X : CX p rmX0_findServed s m args c cX0_findServed 6 RX0 wsX0_findServed D (tC cI cL cS) 490 ad) (Y : RX meth none) {x2 : Int32} {x3 : Int32} {x4 : Int32} {kx97 : Int32 → Wd → Option (Wd)} {out : Wd} (hk_kx97 : ∀ (y5 : Int32) (v : Wd), kx97 y5 v = some out → WJ p l e rmX0_findServed s m args below meth c (MQ below (QWv D 490 ad (cellC cI cL cS ad) out) args s 0 0 (AW 490 ad)) 6 D 490 ad (cellC cI cL cS ad) v 97 [(0, .ref (ad 473)), (2, .int x2), (3, .int x3), (4, .int x4), (5, .int y5)] []) : ∀ (n : Nat) (x5 : Int32) (w : Wd), m_X0_findServed_L59 x2 x3 x4 kx97 n x5 w = some out → WJ p l e rmX0_findServed s m args below meth c (MQ below (QWv D 490 ad (cellC cI cL cS ad) out) args s 0 0 (AW 490 ad)) 6 D 490 ad (cellC cI cL cS ad) w 59 [(0, .ref (ad 473)), (2, .int x2), (3, .int x3), (4, .int x4), (5, .int x5)] [] := by
  intro n
  induction n with
  | zero => intro x5 w hf; exact f_n hf
  | succ n ih =>
    intro x5 w hf
    rw [m_X0_findServed_L59] at hf
    refine j_iload X 4 dX0_findServed_59 rfl ?_
    refine j_aload_n X 0 dX0_findServed_61 rfl rfl ?_
    refine j_get (ref := "ProxyVersions$Causality") (index := 9) (v := .ref (ad 474)) X oCa inX0_findServed_X0 rfl 1 (by decide) (List.mem_of_getElem? (i := 1) rfl) rfl rfl dX0_findServed_62 ?_
    refine j_iload X 3 dX0_findServed_65 rfl ?_
    obtain ⟨hi1, hf⟩ := f_c hf
    refine j_iald X 0 rfl i474 hi1 dX0_findServed_67 ?_
    refine j_icmp_ge (tgt := 97) X dX0_findServed_68 (by decide) (fun c => ?_) (fun c => ?_)
    · replace hf := f_t c hf
      exact hk_kx97 _ _ hf
    replace hf := f_f c hf
    refine j_aload_n X 0 dX0_findServed_71 rfl rfl ?_
    refine j_get (ref := "ProxyVersions$Causality") (index := 18) (v := .ref (ad 50)) X oCa inX0_findServed_X0 rfl 0 (by decide) (List.mem_of_getElem? (i := 2) rfl) rfl rfl dX0_findServed_72 ?_
    refine j_iload X 3 dX0_findServed_75 rfl ?_
    refine j_iload X 4 dX0_findServed_77 rfl ?_
    refine j_iconst X (v := (nI 1)) (by decide) dX0_findServed_79 ?_
    refine j_iadd X dX0_findServed_80 ?_
    refine j_aload_n X 0 dX0_findServed_81 rfl rfl ?_
    refine j_get (ref := "ProxyVersions$Causality") (index := 9) (v := .ref (ad 474)) X oCa inX0_findServed_X0 rfl 1 (by decide) (List.mem_of_getElem? (i := 1) rfl) rfl rfl dX0_findServed_82 ?_
    obtain ⟨o2, ho2, hf⟩ := f_bd hf
    refine j_callVi X oS0 rfl rfl [.int x4, .int (x5 + (nI 1)), .ref (ad 474)] (c_X5_hasCausesIn X.2.2.2.2.2.2.2 ho2) (cwV 3 X.2.2.2.2.1 gX0_findServed_X5_hasCausesIn rfl rfl rfl (by decide +kernel) ⟨Nat.le_of_ble_eq_true rfl, Nat.le_of_ble_eq_true rfl⟩) rfl rfl (Nat.le_of_ble_eq_true rfl) dX0_findServed_85 ?_
    refine j_if_eq (tgt := 97) X dX0_findServed_88 (by decide) (fun c => ?_) (fun c => ?_)
    · replace hf := f_t c hf
      exact hk_kx97 _ _ hf
    replace hf := f_f c hf
    refine j_iinc (v := (x5 + (nI 1))) (lv' := [(0, .ref (ad 473)), (2, .int x2), (3, .int x3), (4, .int x4), (5, .int (x5 + (nI 1)))]) X 4 dX0_findServed_91 rfl rfl (by decide) rfl ?_
    refine j_goto (tgt := 59) X dX0_findServed_94 (by decide) ?_
    exact ih _ _ hf
set_option maxRecDepth 100000 in
set_option maxHeartbeats 4000000 in
theorem t_X0_findServed_j118 (X : CX p rmX0_findServed s m args c cX0_findServed 6 RX0 wsX0_findServed D (tC cI cL cS) 490 ad) (Y : RX meth none) {x3 : Int32} {x4 : Int32} {x5 : Int32} {s0 : Int32} {w : Wd} {kc : Int32 → Int32 → Wd → Option (Wd)} {kx134 : Int32 → Wd → Option (Wd)} {out : Wd} (hf : m_X0_findServed_j118 x3 x4 x5 s0 w kc kx134 = some out) (hk_kc : ∀ (y2 : Int32) (y4 : Int32) (v : Wd), kc y2 y4 v = some out → WJ p l e rmX0_findServed s m args below meth c (MQ below (QWv D 490 ad (cellC cI cL cS ad) out) args s 0 0 (AW 490 ad)) 6 D 490 ad (cellC cI cL cS ad) v 50 [(0, .ref (ad 473)), (2, .int y2), (3, .int x3), (4, .int y4)] []) (hk_kx134 : ∀ (y2 : Int32) (v : Wd), kx134 y2 v = some out → WJ p l e rmX0_findServed s m args below meth c (MQ below (QWv D 490 ad (cellC cI cL cS ad) out) args s 0 0 (AW 490 ad)) 6 D 490 ad (cellC cI cL cS ad) v 134 [(0, .ref (ad 473)), (2, .int y2), (3, .int x3)] []) : WJ p l e rmX0_findServed s m args below meth c (MQ below (QWv D 490 ad (cellC cI cL cS ad) out) args s 0 0 (AW 490 ad)) 6 D 490 ad (cellC cI cL cS ad) w 118 [(0, .ref (ad 473)), (3, .int x3), (4, .int x4), (5, .int x5)] [.int s0] := by
  unfold m_X0_findServed_j118 at hf
  refine j_istore_n (lv' := [(0, .ref (ad 473)), (2, .int s0), (3, .int x3), (4, .int x4), (5, .int x5)]) X dX0_findServed_118 rfl (by decide) rfl ?_
  refine j_aload_n X 0 dX0_findServed_119 rfl rfl ?_
  refine j_get (ref := "ProxyVersions$Causality") (index := 9) (v := .ref (ad 474)) X oCa inX0_findServed_X0 rfl 1 (by decide) (List.mem_of_getElem? (i := 1) rfl) rfl rfl dX0_findServed_120 ?_
  refine j_iload X 3 dX0_findServed_123 rfl ?_
  refine j_iload X 4 dX0_findServed_125 rfl ?_
  obtain ⟨hi1, hf⟩ := f_c hf
  obtain ⟨w2, ew2, hf⟩ := f_lt hf
  refine j_iast X 0 rfl i474 hi1 dX0_findServed_127 ew2 ?_
  refine j_iinc (v := (x4 + (nI 1))) (lv' := [(0, .ref (ad 473)), (2, .int s0), (3, .int x3), (4, .int (x4 + (nI 1))), (5, .int x5)]) X 3 dX0_findServed_128 rfl rfl (by decide) rfl ?_
  refine j_goto (tgt := 50) X dX0_findServed_131 (by decide) ?_
  refine j_sub [0, 1, 2, 3] rfl ?_
  exact hk_kc _ _ _ hf
set_option maxRecDepth 100000 in
set_option maxHeartbeats 4000000 in
theorem t_X0_findServed_j113 (X : CX p rmX0_findServed s m args c cX0_findServed 6 RX0 wsX0_findServed D (tC cI cL cS) 490 ad) (Y : RX meth none) {x3 : Int32} {x4 : Int32} {x5 : Int32} {w : Wd} {kc : Int32 → Int32 → Wd → Option (Wd)} {kx134 : Int32 → Wd → Option (Wd)} {out : Wd} (hf : m_X0_findServed_j113 x3 x4 x5 w kc kx134 = some out) (hk_kc : ∀ (y2 : Int32) (y4 : Int32) (v : Wd), kc y2 y4 v = some out → WJ p l e rmX0_findServed s m args below meth c (MQ below (QWv D 490 ad (cellC cI cL cS ad) out) args s 0 0 (AW 490 ad)) 6 D 490 ad (cellC cI cL cS ad) v 50 [(0, .ref (ad 473)), (2, .int y2), (3, .int x3), (4, .int y4)] []) (hk_kx134 : ∀ (y2 : Int32) (v : Wd), kx134 y2 v = some out → WJ p l e rmX0_findServed s m args below meth c (MQ below (QWv D 490 ad (cellC cI cL cS ad) out) args s 0 0 (AW 490 ad)) 6 D 490 ad (cellC cI cL cS ad) v 134 [(0, .ref (ad 473)), (2, .int y2), (3, .int x3)] []) : WJ p l e rmX0_findServed s m args below meth c (MQ below (QWv D 490 ad (cellC cI cL cS ad) out) args s 0 0 (AW 490 ad)) 6 D 490 ad (cellC cI cL cS ad) w 113 [(0, .ref (ad 473)), (3, .int x3), (4, .int x4), (5, .int x5)] [] := by
  unfold m_X0_findServed_j113 at hf
  refine j_iconst X (v := (nI 1)) (by decide) dX0_findServed_113 ?_
  refine j_goto (tgt := 118) X dX0_findServed_114 (by decide) ?_
  exact t_X0_findServed_j118 X Y hf hk_kc hk_kx134
set_option maxRecDepth 100000 in
set_option maxHeartbeats 4000000 in
theorem t_X0_findServed_j97 (X : CX p rmX0_findServed s m args c cX0_findServed 6 RX0 wsX0_findServed D (tC cI cL cS) 490 ad) (Y : RX meth none) {x2 : Int32} {x3 : Int32} {x4 : Int32} {x5 : Int32} {w : Wd} {kc : Int32 → Int32 → Wd → Option (Wd)} {kx134 : Int32 → Wd → Option (Wd)} {out : Wd} (hf : m_X0_findServed_j97 x2 x3 x4 x5 w kc kx134 = some out) (hk_kc : ∀ (y2 : Int32) (y4 : Int32) (v : Wd), kc y2 y4 v = some out → WJ p l e rmX0_findServed s m args below meth c (MQ below (QWv D 490 ad (cellC cI cL cS ad) out) args s 0 0 (AW 490 ad)) 6 D 490 ad (cellC cI cL cS ad) v 50 [(0, .ref (ad 473)), (2, .int y2), (3, .int x3), (4, .int y4)] []) (hk_kx134 : ∀ (y2 : Int32) (v : Wd), kx134 y2 v = some out → WJ p l e rmX0_findServed s m args below meth c (MQ below (QWv D 490 ad (cellC cI cL cS ad) out) args s 0 0 (AW 490 ad)) 6 D 490 ad (cellC cI cL cS ad) v 134 [(0, .ref (ad 473)), (2, .int y2), (3, .int x3)] []) : WJ p l e rmX0_findServed s m args below meth c (MQ below (QWv D 490 ad (cellC cI cL cS ad) out) args s 0 0 (AW 490 ad)) 6 D 490 ad (cellC cI cL cS ad) w 97 [(0, .ref (ad 473)), (2, .int x2), (3, .int x3), (4, .int x4), (5, .int x5)] [] := by
  unfold m_X0_findServed_j97 at hf
  refine j_iload_n X 1 dX0_findServed_97 rfl rfl ?_
  refine j_if_ne (tgt := 113) X dX0_findServed_98 (by decide) (fun c => ?_) (fun c => ?_)
  · replace hf := f_t c hf
    refine j_sub [0, 2, 3, 4] rfl ?_
    exact t_X0_findServed_j113 X Y hf hk_kc hk_kx134
  replace hf := f_fn c hf
  refine j_iload X 4 dX0_findServed_101 rfl ?_
  refine j_aload_n X 0 dX0_findServed_103 rfl rfl ?_
  refine j_get (ref := "ProxyVersions$Causality") (index := 9) (v := .ref (ad 474)) X oCa inX0_findServed_X0 rfl 1 (by decide) (List.mem_of_getElem? (i := 1) rfl) rfl rfl dX0_findServed_104 ?_
  refine j_iload X 3 dX0_findServed_107 rfl ?_
  obtain ⟨hi1, hf⟩ := f_c hf
  refine j_iald X 0 rfl i474 hi1 dX0_findServed_109 ?_
  refine j_icmp_ge (tgt := 117) X dX0_findServed_110 (by decide) (fun c => ?_) (fun c => ?_)
  · replace hf := f_t c hf
    refine j_iconst X (v := (nI 0)) (by decide) dX0_findServed_117 ?_
    refine j_sub [0, 2, 3, 4] rfl ?_
    exact t_X0_findServed_j118 X Y hf hk_kc hk_kx134
  replace hf := f_f c hf
  refine j_sub [0, 2, 3, 4] rfl ?_
  exact t_X0_findServed_j113 X Y hf hk_kc hk_kx134
set_option maxRecDepth 100000 in
set_option maxHeartbeats 4000000 in
theorem t_X0_findServed_L50 (X : CX p rmX0_findServed s m args c cX0_findServed 6 RX0 wsX0_findServed D (tC cI cL cS) 490 ad) (Y : RX meth none) {x3 : Int32} {kx134 : Int32 → Wd → Option (Wd)} {out : Wd} (hk_kx134 : ∀ (y2 : Int32) (v : Wd), kx134 y2 v = some out → WJ p l e rmX0_findServed s m args below meth c (MQ below (QWv D 490 ad (cellC cI cL cS ad) out) args s 0 0 (AW 490 ad)) 6 D 490 ad (cellC cI cL cS ad) v 134 [(0, .ref (ad 473)), (2, .int y2), (3, .int x3)] []) : ∀ (n : Nat) (x2 : Int32) (x4 : Int32) (w : Wd), m_X0_findServed_L50 x3 kx134 n x2 x4 w = some out → WJ p l e rmX0_findServed s m args below meth c (MQ below (QWv D 490 ad (cellC cI cL cS ad) out) args s 0 0 (AW 490 ad)) 6 D 490 ad (cellC cI cL cS ad) w 50 [(0, .ref (ad 473)), (2, .int x2), (3, .int x3), (4, .int x4)] [] := by
  intro n
  induction n with
  | zero => intro x2 x4 w hf; exact f_n hf
  | succ n ih =>
    intro x2 x4 w hf
    rw [m_X0_findServed_L50] at hf
    refine j_iload X 3 dX0_findServed_50 rfl ?_
    refine j_iconst X (v := (nI 4)) (by decide) dX0_findServed_52 ?_
    refine j_icmp_ge (tgt := 134) X dX0_findServed_53 (by decide) (fun c => ?_) (fun c => ?_)
    · replace hf := f_t c hf
      refine j_sub [0, 1, 2] rfl ?_
      exact hk_kx134 _ _ hf
    replace hf := f_f c hf
    refine j_iconst X (v := (nI 0)) (by decide) dX0_findServed_56 ?_
    refine j_istore (lv' := [(0, .ref (ad 473)), (2, .int x2), (3, .int x3), (4, .int x4), (5, .int (nI 0))]) X dX0_findServed_57 (by decide) rfl ?_
    refine t_X0_findServed_L59 X Y ?_ _ _ _ hf
    intro x5_1 w2 hf
    exact t_X0_findServed_j97 X Y hf ih hk_kx134
set_option maxRecDepth 100000 in
set_option maxHeartbeats 4000000 in
theorem t_X0_findServed_L35 (X : CX p rmX0_findServed s m args c cX0_findServed 6 RX0 wsX0_findServed D (tC cI cL cS) 490 ad) (Y : RX meth none) {out : Wd} : ∀ (n : Nat) (x2 : Int32) (x3 : Int32) (w : Wd), m_X0_findServed_L35 n x2 x3 w = some out → WJ p l e rmX0_findServed s m args below meth c (MQ below (QWv D 490 ad (cellC cI cL cS ad) out) args s 0 0 (AW 490 ad)) 6 D 490 ad (cellC cI cL cS ad) w 35 [(0, .ref (ad 473)), (2, .int x2), (3, .int x3)] [] := by
  intro n
  induction n with
  | zero => intro x2 x3 w hf; exact f_n hf
  | succ n ih =>
    intro x2 x3 w hf
    rw [m_X0_findServed_L35] at hf
    refine j_iload_n X 2 dX0_findServed_35 rfl rfl ?_
    refine j_bipush X (v := (nI 96)) (by decide) dX0_findServed_36 ?_
    refine j_icmp_gt (tgt := 140) X dX0_findServed_38 (by decide) (fun c => ?_) (fun c => ?_)
    · replace hf := f_t c hf
      exact j_vret X Y (f_s hf) dX0_findServed_140
    replace hf := f_f c hf
    refine j_iload_n X 1 dX0_findServed_41 rfl rfl ?_
    refine j_if_eq (tgt := 140) X dX0_findServed_42 (by decide) (fun c => ?_) (fun c => ?_)
    · replace hf := f_t c hf
      exact j_vret X Y (f_s hf) dX0_findServed_140
    replace hf := f_f c hf
    refine j_iconst X (v := (nI 0)) (by decide) dX0_findServed_45 ?_
    refine j_istore_n (lv' := [(0, .ref (ad 473)), (2, .int (nI 0)), (3, .int x3)]) X dX0_findServed_46 rfl (by decide) rfl ?_
    refine j_iconst X (v := (nI 0)) (by decide) dX0_findServed_47 ?_
    refine j_istore (lv' := [(0, .ref (ad 473)), (2, .int (nI 0)), (3, .int x3), (4, .int (nI 0))]) X dX0_findServed_48 (by decide) rfl ?_
    refine t_X0_findServed_L50 X Y ?_ _ _ _ _ hf
    intro x2_1 w2 hf
    refine j_iinc (v := (x3 + (nI 1))) (lv' := [(0, .ref (ad 473)), (2, .int x2_1), (3, .int (x3 + (nI 1)))]) X 2 dX0_findServed_134 rfl rfl (by decide) rfl ?_
    refine j_goto (tgt := 35) X dX0_findServed_137 (by decide) ?_
    exact ih _ _ _ hf
set_option maxRecDepth 100000 in
set_option maxHeartbeats 4000000 in
theorem c_X0_findServed (hI : Inj 490 ad) {x1 : Int32} {w : Wd} {out : Wd} (hf : m_X0_findServed x1 w = some out) : Met l yX0_findServed wsX0_findServed rmX0_findServed (va_Pc [.ref (ad 473), .int x1] (PW D (tC cI cL cS) 490 ad (cellC cI cL cS ad) w)) (QWv D 490 ad (cellC cI cL cS ad) out) 0 0 (AW 490 ad) := by
  refine mk_met (maxL := 6) (ret := none) RX0 hI (by decide) rfl rfl (Nat.le_of_ble_eq_true rfl) rfl rfl (fun p e s m args below meth c X Y => ?_)
  unfold m_X0_findServed at hf
  refine j_iconst X (v := (nI 0)) (by decide) dX0_findServed_0 ?_
  refine j_istore_n (lv' := [(0, .ref (ad 473)), (1, .int x1), (2, .int (nI 0))]) X dX0_findServed_1 rfl (by decide) rfl ?_
  refine t_X0_findServed_L2 X Y ?_ _ _ _ hf
  intro w1 hf
  refine j_iconst X (v := (nI 1)) (by decide) dX0_findServed_31 ?_
  refine j_istore_n (lv' := [(0, .ref (ad 473)), (2, .int (nI 1))]) X dX0_findServed_32 rfl (by decide) rfl ?_
  refine j_iconst X (v := (nI 0)) (by decide) dX0_findServed_33 ?_
  refine j_istore_n (lv' := [(0, .ref (ad 473)), (2, .int (nI 1)), (3, .int (nI 0))]) X dX0_findServed_34 rfl (by decide) rfl ?_
  refine t_X0_findServed_L35 X Y _ _ _ _ hf
abbrev rmX0_prefixFound : Room := { frames := 0, cells := 0, slots := 0, locals := 0 }
theorem inX0_prefixFound_X0 : ∀ w ∈ wsX00, w ∈ wsX0_prefixFound := fun _ h => List.mem_cons_of_mem _ (List.mem_append_right _ h)
set_option maxRecDepth 100000 in
set_option maxHeartbeats 4000000 in
theorem c_X0_prefixFound (hI : Inj 490 ad) {x1 : Int32} {w : Wd} {out : Int32} (hf : m_X0_prefixFound x1 w = some out) : Met l yX0_prefixFound wsX0_prefixFound rmX0_prefixFound (va_Pc [.ref (ad 473), .int x1] (PW D (tC cI cL cS) 490 ad (cellC cI cL cS ad) w)) (QWi D 490 ad (cellC cI cL cS ad) out w) 0 0 (AW 490 ad) := by
  refine mk_met (maxL := 2) (ret := (some .int)) RX0 hI (by decide) rfl rfl (Nat.le_of_ble_eq_true rfl) rfl rfl (fun p e s m args below meth c X Y => ?_)
  unfold m_X0_prefixFound at hf
  refine j_iload_n X 1 dX0_prefixFound_0 rfl rfl ?_
  refine j_if_lt (tgt := 22) X dX0_prefixFound_1 (by decide) (fun c => ?_) (fun c => ?_)
  · replace hf := f_t c hf
    refine j_iconst X (v := (nI 0)) (by decide) dX0_prefixFound_22 ?_
    exact j_iret X Y (f_s hf) rfl dX0_prefixFound_23
  replace hf := f_f c hf
  refine j_iload_n X 1 dX0_prefixFound_4 rfl rfl ?_
  refine j_aload_n X 0 dX0_prefixFound_5 rfl rfl ?_
  refine j_get (ref := "ProxyVersions$Causality") (index := 9) (v := .ref (ad 474)) X oCa inX0_prefixFound_X0 rfl 1 (by decide) (List.mem_of_getElem? (i := 1) rfl) rfl rfl dX0_prefixFound_6 ?_
  refine j_alen X 0 rfl i474 dX0_prefixFound_9 ?_
  refine j_icmp_ge (tgt := 22) X dX0_prefixFound_10 (by decide) (fun c => ?_) (fun c => ?_)
  · replace hf := f_t c hf
    refine j_iconst X (v := (nI 0)) (by decide) dX0_prefixFound_22 ?_
    exact j_iret X Y (f_s hf) rfl dX0_prefixFound_23
  replace hf := f_f c hf
  refine j_aload_n X 0 dX0_prefixFound_13 rfl rfl ?_
  refine j_get (ref := "ProxyVersions$Causality") (index := 9) (v := .ref (ad 474)) X oCa inX0_prefixFound_X0 rfl 1 (by decide) (List.mem_of_getElem? (i := 1) rfl) rfl rfl dX0_prefixFound_14 ?_
  refine j_iload_n X 1 dX0_prefixFound_17 rfl rfl ?_
  obtain ⟨hi1, hf⟩ := f_c hf
  refine j_iald X 0 rfl i474 hi1 dX0_prefixFound_18 ?_
  refine j_goto (tgt := 23) X dX0_prefixFound_19 (by decide) ?_
  exact j_iret X Y (f_s hf) rfl dX0_prefixFound_23
abbrev rmX0_servedOf : Room := { frames := 2, cells := 0, slots := 0, locals := 51 }
set_option maxRecDepth 100000 in
set_option maxHeartbeats 4000000 in
theorem c_X0_servedOf (hI : Inj 490 ad) {x1 : Int32} {x2 : Int32} {w : Wd} {out : Int32 × Wd} (hf : m_X0_servedOf x1 x2 w = some out) : Met l yX0_servedOf wsX0_servedOf rmX0_servedOf (va_Pc [.ref (ad 473), .int x1, .int x2] (PW D (tC cI cL cS) 490 ad (cellC cI cL cS ad) w)) (QWi D 490 ad (cellC cI cL cS ad) out.1 out.2) 0 0 (AW 490 ad) := by
  refine mk_met (maxL := 3) (ret := (some .int)) RX0 hI (by decide) rfl rfl (Nat.le_of_ble_eq_true rfl) rfl rfl (fun p e s m args below meth c X Y => ?_)
  unfold m_X0_servedOf at hf
  refine j_aload_n X 0 dX0_servedOf_0 rfl rfl ?_
  refine j_iload_n X 1 dX0_servedOf_1 rfl rfl ?_
  obtain ⟨o1, ho1, hf⟩ := f_bd hf
  refine j_callVv X oCa rfl rfl [.int x1] (c_X0_findServed X.2.2.2.2.2.2.2 ho1) (cwV 1 X.2.2.2.2.1 gX0_servedOf_X0_findServed rfl rfl rfl (by decide +kernel) ⟨Nat.le_of_ble_eq_true rfl, Nat.le_of_ble_eq_true rfl⟩) rfl rfl (Nat.le_of_ble_eq_true rfl) dX0_servedOf_2 ?_
  refine j_aload_n X 0 dX0_servedOf_5 rfl rfl ?_
  refine j_iload_n X 2 dX0_servedOf_6 rfl rfl ?_
  obtain ⟨o2, ho2, hf⟩ := f_bd hf
  refine j_callVi X oCa rfl rfl [.int x2] (c_X0_prefixFound X.2.2.2.2.2.2.2 ho2) (cwV 1 X.2.2.2.2.1 gX0_servedOf_X0_prefixFound rfl rfl rfl (by decide +kernel) ⟨Nat.le_of_ble_eq_true rfl, Nat.le_of_ble_eq_true rfl⟩) rfl rfl (Nat.le_of_ble_eq_true rfl) dX0_servedOf_7 ?_
  exact j_iret X Y (f_p1 hf) (f_p2 hf) dX0_servedOf_10
abbrev rmX0_servedCount : Room := { frames := 2, cells := 0, slots := 0, locals := 51 }
theorem inX0_servedCount_X0 : ∀ w ∈ wsX00, w ∈ wsX0_servedCount := fun _ h => List.mem_cons_of_mem _ (List.mem_append_left _ (List.mem_append_right _ h))
set_option maxRecDepth 100000 in
set_option maxHeartbeats 4000000 in
theorem t_X0_servedCount_L9 (X : CX p rmX0_servedCount s m args c cX0_servedCount 4 RX0 wsX0_servedCount D (tC cI cL cS) 490 ad) (Y : RX meth (some .int)) {out : Int32 × Wd} : ∀ (n : Nat) (x2 : Int32) (x3 : Int32) (w : Wd), m_X0_servedCount_L9 n x2 x3 w = some out → WJ p l e rmX0_servedCount s m args below meth c (MQ below (QWi D 490 ad (cellC cI cL cS ad) out.1 out.2) args s 0 0 (AW 490 ad)) 4 D 490 ad (cellC cI cL cS ad) w 9 [(0, .ref (ad 473)), (2, .int x2), (3, .int x3)] [] := by
  intro n
  induction n with
  | zero => intro x2 x3 w hf; exact f_n hf
  | succ n ih =>
    intro x2 x3 w hf
    rw [m_X0_servedCount_L9] at hf
    refine j_iload_n X 2 dX0_servedCount_9 rfl rfl ?_
    refine j_iconst X (v := (nI 4)) (by decide) dX0_servedCount_10 ?_
    refine j_icmp_ge (tgt := 29) X dX0_servedCount_11 (by decide) (fun c => ?_) (fun c => ?_)
    · replace hf := f_t c hf
      refine j_iload_n X 1 dX0_servedCount_29 rfl rfl ?_
      exact j_iret X Y (f_p1 hf) (f_p2 hf) dX0_servedCount_30
    replace hf := f_f c hf
    refine j_iload_n X 1 dX0_servedCount_14 rfl rfl ?_
    refine j_aload_n X 0 dX0_servedCount_15 rfl rfl ?_
    refine j_get (ref := "ProxyVersions$Causality") (index := 9) (v := .ref (ad 474)) X oCa inX0_servedCount_X0 rfl 1 (by decide) (List.mem_of_getElem? (i := 1) rfl) rfl rfl dX0_servedCount_16 ?_
    refine j_iload_n X 2 dX0_servedCount_19 rfl rfl ?_
    obtain ⟨hi1, hf⟩ := f_c hf
    refine j_iald X 0 rfl i474 hi1 dX0_servedCount_20 ?_
    refine j_iadd X dX0_servedCount_21 ?_
    obtain ⟨x2_2, ex2_2, hf⟩ := f_lt hf
    refine j_top ex2_2 ?_
    refine j_istore_n (lv' := [(0, .ref (ad 473)), (2, .int x2_2), (3, .int x3)]) X dX0_servedCount_22 rfl (by decide) rfl ?_
    refine j_iinc (v := (x3 + (nI 1))) (lv' := [(0, .ref (ad 473)), (2, .int x2_2), (3, .int (x3 + (nI 1)))]) X 2 dX0_servedCount_23 rfl rfl (by decide) rfl ?_
    refine j_goto (tgt := 9) X dX0_servedCount_26 (by decide) ?_
    exact ih _ _ _ hf
set_option maxRecDepth 100000 in
set_option maxHeartbeats 4000000 in
theorem c_X0_servedCount (hI : Inj 490 ad) {x1 : Int32} {w : Wd} {out : Int32 × Wd} (hf : m_X0_servedCount x1 w = some out) : Met l yX0_servedCount wsX0_servedCount rmX0_servedCount (va_Pc [.ref (ad 473), .int x1] (PW D (tC cI cL cS) 490 ad (cellC cI cL cS ad) w)) (QWi D 490 ad (cellC cI cL cS ad) out.1 out.2) 0 0 (AW 490 ad) := by
  refine mk_met (maxL := 4) (ret := (some .int)) RX0 hI (by decide) rfl rfl (Nat.le_of_ble_eq_true rfl) rfl rfl (fun p e s m args below meth c X Y => ?_)
  unfold m_X0_servedCount at hf
  refine j_aload_n X 0 dX0_servedCount_0 rfl rfl ?_
  refine j_iload_n X 1 dX0_servedCount_1 rfl rfl ?_
  obtain ⟨o1, ho1, hf⟩ := f_bd hf
  refine j_callVv X oCa rfl rfl [.int x1] (c_X0_findServed X.2.2.2.2.2.2.2 ho1) (cwV 1 X.2.2.2.2.1 gX0_servedCount_X0_findServed rfl rfl rfl (by decide +kernel) ⟨Nat.le_of_ble_eq_true rfl, Nat.le_of_ble_eq_true rfl⟩) rfl rfl (Nat.le_of_ble_eq_true rfl) dX0_servedCount_2 ?_
  refine j_iconst X (v := (nI 0)) (by decide) dX0_servedCount_5 ?_
  refine j_istore_n (lv' := [(0, .ref (ad 473)), (1, .int x1), (2, .int (nI 0))]) X dX0_servedCount_6 rfl (by decide) rfl ?_
  refine j_iconst X (v := (nI 0)) (by decide) dX0_servedCount_7 ?_
  refine j_istore_n (lv' := [(0, .ref (ad 473)), (1, .int x1), (2, .int (nI 0)), (3, .int (nI 0))]) X dX0_servedCount_8 rfl (by decide) rfl ?_
  refine j_sub [0, 2, 3] rfl ?_
  refine t_X0_servedCount_L9 X Y _ _ _ _ hf
abbrev rmX5_causeOf : Room := { frames := 0, cells := 0, slots := 0, locals := 0 }
theorem inX5_causeOf_X5 : ∀ w ∈ wsX50, w ∈ wsX5_causeOf := fun _ h => List.mem_cons_of_mem _ (List.mem_append_right _ h)
set_option maxRecDepth 100000 in
set_option maxHeartbeats 4000000 in
theorem c_X5_causeOf (hI : Inj 490 ad) {x1 : Int32} {x2 : Int32} {x3 : Int32} {w : Wd} {out : Int32} (hf : m_X5_causeOf x1 x2 x3 w = some out) : Met l yX5_causeOf wsX5_causeOf rmX5_causeOf (va_Pc [.ref (ad 50), .int x1, .int x2, .int x3] (PW D (tC cI cL cS) 490 ad (cellC cI cL cS ad) w)) (QWi D 490 ad (cellC cI cL cS ad) out w) 0 0 (AW 490 ad) := by
  refine mk_met (maxL := 5) (ret := (some .int)) RX5 hI (by decide) rfl rfl (Nat.le_of_ble_eq_true rfl) rfl rfl (fun p e s m args below meth c X Y => ?_)
  unfold m_X5_causeOf at hf
  refine j_iload_n X 1 dX5_causeOf_0 rfl rfl ?_
  refine j_bipush X (v := (nI 24)) (by decide) dX5_causeOf_1 ?_
  refine j_imul X dX5_causeOf_3 ?_
  refine j_iload_n X 2 dX5_causeOf_4 rfl rfl ?_
  refine j_iadd X dX5_causeOf_5 ?_
  refine j_iconst X (v := (nI 1)) (by decide) dX5_causeOf_6 ?_
  refine j_isub X dX5_causeOf_7 ?_
  refine j_iconst X (v := (nI 4)) (by decide) dX5_causeOf_8 ?_
  refine j_imul X dX5_causeOf_9 ?_
  refine j_iload_n X 3 dX5_causeOf_10 rfl rfl ?_
  refine j_iadd X dX5_causeOf_11 ?_
  obtain ⟨x4_1, ex4_1, hf⟩ := f_lt hf
  refine j_top ex4_1 ?_
  refine j_istore (lv' := [(0, .ref (ad 50)), (1, .int x1), (2, .int x2), (3, .int x3), (4, .int x4_1)]) X dX5_causeOf_12 (by decide) rfl ?_
  refine j_iload X 4 dX5_causeOf_14 rfl ?_
  refine j_if_lt (tgt := 39) X dX5_causeOf_16 (by decide) (fun c => ?_) (fun c => ?_)
  · replace hf := f_t c hf
    refine j_iconst X (v := (nI 0)) (by decide) dX5_causeOf_39 ?_
    exact j_iret X Y (f_s hf) rfl dX5_causeOf_40
  replace hf := f_f c hf
  refine j_iload X 4 dX5_causeOf_19 rfl ?_
  refine j_aload_n X 0 dX5_causeOf_21 rfl rfl ?_
  refine j_get (ref := "ProxyVersions$State") (index := 34) (v := .ref (ad 55)) X oS0 inX5_causeOf_X5 rfl 11 (by decide) (List.mem_of_getElem? (i := 1) rfl) rfl rfl dX5_causeOf_22 ?_
  refine j_alen X 0 rfl i55 dX5_causeOf_25 ?_
  refine j_icmp_ge (tgt := 39) X dX5_causeOf_26 (by decide) (fun c => ?_) (fun c => ?_)
  · replace hf := f_t c hf
    refine j_iconst X (v := (nI 0)) (by decide) dX5_causeOf_39 ?_
    exact j_iret X Y (f_s hf) rfl dX5_causeOf_40
  replace hf := f_f c hf
  refine j_aload_n X 0 dX5_causeOf_29 rfl rfl ?_
  refine j_get (ref := "ProxyVersions$State") (index := 34) (v := .ref (ad 55)) X oS0 inX5_causeOf_X5 rfl 11 (by decide) (List.mem_of_getElem? (i := 1) rfl) rfl rfl dX5_causeOf_30 ?_
  refine j_iload X 4 dX5_causeOf_33 rfl ?_
  obtain ⟨hi2, hf⟩ := f_c hf
  refine j_iald X 0 rfl i55 hi2 dX5_causeOf_35 ?_
  refine j_goto (tgt := 40) X dX5_causeOf_36 (by decide) ?_
  exact j_iret X Y (f_s hf) rfl dX5_causeOf_40
abbrev rmX0_addCausesOf : Room := { frames := 1, cells := 0, slots := 0, locals := 24 }
theorem inX0_addCausesOf_X0 : ∀ w ∈ wsX00, w ∈ wsX0_addCausesOf := fun _ h => List.mem_cons_of_mem _ (List.mem_append_left _ (List.mem_append_right _ h))
set_option maxRecDepth 100000 in
set_option maxHeartbeats 4000000 in
theorem t_X0_addCausesOf_j88 (X : CX p rmX0_addCausesOf s m args c cX0_addCausesOf 7 RX0 wsX0_addCausesOf D (tC cI cL cS) 490 ad) (Y : RX meth (some .boolean)) {x1 : Int32} {x2 : Int32} {x3 : Int32} {x4 : Int32} {x5 : Int32} {w : Wd} {kc : Int32 → Int32 → Wd → Option (Int32 × Wd)} {kx94 : Int32 → Wd → Option (Int32 × Wd)} {out : Int32 × Wd} (hf : m_X0_addCausesOf_j88 x1 x2 x3 x4 x5 w kc kx94 = some out) (hk_kc : ∀ (y2 : Int32) (y5 : Int32) (v : Wd), kc y2 y5 v = some out → WJ p l e rmX0_addCausesOf s m args below meth c (MQ below (QWi D 490 ad (cellC cI cL cS ad) out.1 out.2) args s 0 0 (AW 490 ad)) 7 D 490 ad (cellC cI cL cS ad) v 45 [(0, .ref (ad 473)), (1, .int x1), (2, .int y2), (3, .int x3), (4, .int x4), (5, .int y5)] []) (hk_kx94 : ∀ (y2 : Int32) (v : Wd), kx94 y2 v = some out → WJ p l e rmX0_addCausesOf s m args below meth c (MQ below (QWi D 490 ad (cellC cI cL cS ad) out.1 out.2) args s 0 0 (AW 490 ad)) 7 D 490 ad (cellC cI cL cS ad) v 94 [(0, .ref (ad 473)), (1, .int x1), (2, .int y2), (3, .int x3), (4, .int x4)] []) : WJ p l e rmX0_addCausesOf s m args below meth c (MQ below (QWi D 490 ad (cellC cI cL cS ad) out.1 out.2) args s 0 0 (AW 490 ad)) 7 D 490 ad (cellC cI cL cS ad) w 88 [(0, .ref (ad 473)), (1, .int x1), (2, .int x2), (3, .int x3), (4, .int x4), (5, .int x5)] [] := by
  unfold m_X0_addCausesOf_j88 at hf
  refine j_iinc (v := (x5 + (nI 1))) (lv' := [(0, .ref (ad 473)), (1, .int x1), (2, .int x2), (3, .int x3), (4, .int x4), (5, .int (x5 + (nI 1)))]) X 5 dX0_addCausesOf_88 rfl rfl (by decide) rfl ?_
  refine j_goto (tgt := 45) X dX0_addCausesOf_91 (by decide) ?_
  exact hk_kc _ _ _ hf
set_option maxRecDepth 100000 in
set_option maxHeartbeats 4000000 in
theorem t_X0_addCausesOf_L45 (X : CX p rmX0_addCausesOf s m args c cX0_addCausesOf 7 RX0 wsX0_addCausesOf D (tC cI cL cS) 490 ad) (Y : RX meth (some .boolean)) {x1 : Int32} {x3 : Int32} {x4 : Int32} {kx94 : Int32 → Wd → Option (Int32 × Wd)} {out : Int32 × Wd} (hk_kx94 : ∀ (y2 : Int32) (v : Wd), kx94 y2 v = some out → WJ p l e rmX0_addCausesOf s m args below meth c (MQ below (QWi D 490 ad (cellC cI cL cS ad) out.1 out.2) args s 0 0 (AW 490 ad)) 7 D 490 ad (cellC cI cL cS ad) v 94 [(0, .ref (ad 473)), (1, .int x1), (2, .int y2), (3, .int x3), (4, .int x4)] []) : ∀ (n : Nat) (x2 : Int32) (x5 : Int32) (w : Wd), m_X0_addCausesOf_L45 x1 x3 x4 kx94 n x2 x5 w = some out → WJ p l e rmX0_addCausesOf s m args below meth c (MQ below (QWi D 490 ad (cellC cI cL cS ad) out.1 out.2) args s 0 0 (AW 490 ad)) 7 D 490 ad (cellC cI cL cS ad) w 45 [(0, .ref (ad 473)), (1, .int x1), (2, .int x2), (3, .int x3), (4, .int x4), (5, .int x5)] [] := by
  intro n
  induction n with
  | zero => intro x2 x5 w hf; exact f_n hf
  | succ n ih =>
    intro x2 x5 w hf
    rw [m_X0_addCausesOf_L45] at hf
    refine j_iload X 5 dX0_addCausesOf_45 rfl ?_
    refine j_iconst X (v := (nI 4)) (by decide) dX0_addCausesOf_47 ?_
    refine j_icmp_ge (tgt := 94) X dX0_addCausesOf_48 (by decide) (fun c => ?_) (fun c => ?_)
    · replace hf := f_t c hf
      refine j_sub [0, 1, 2, 3, 4] rfl ?_
      exact hk_kx94 _ _ hf
    replace hf := f_f c hf
    refine j_aload_n X 0 dX0_addCausesOf_51 rfl rfl ?_
    refine j_get (ref := "ProxyVersions$Causality") (index := 18) (v := .ref (ad 50)) X oCa inX0_addCausesOf_X0 rfl 0 (by decide) (List.mem_of_getElem? (i := 2) rfl) rfl rfl dX0_addCausesOf_52 ?_
    refine j_iload_n X 1 dX0_addCausesOf_55 rfl rfl ?_
    refine j_iload X 4 dX0_addCausesOf_56 rfl ?_
    refine j_iload X 5 dX0_addCausesOf_58 rfl ?_
    obtain ⟨o1, ho1, hf⟩ := f_bd hf
    refine j_callVi X oS0 rfl rfl [.int x1, .int x4, .int x5] (c_X5_causeOf X.2.2.2.2.2.2.2 ho1) (cwV 3 X.2.2.2.2.1 gX0_addCausesOf_X5_causeOf rfl rfl rfl (by decide +kernel) ⟨Nat.le_of_ble_eq_true rfl, Nat.le_of_ble_eq_true rfl⟩) rfl rfl (Nat.le_of_ble_eq_true rfl) dX0_addCausesOf_60 ?_
    refine j_istore (lv' := [(0, .ref (ad 473)), (1, .int x1), (2, .int x2), (3, .int x3), (4, .int x4), (5, .int x5), (6, .int o1)]) X dX0_addCausesOf_63 (by decide) rfl ?_
    refine j_iload X 6 dX0_addCausesOf_65 rfl ?_
    refine j_aload_n X 0 dX0_addCausesOf_67 rfl rfl ?_
    refine j_get (ref := "ProxyVersions$Causality") (index := 15) (v := .ref (ad 475)) X oCa inX0_addCausesOf_X0 rfl 2 (by decide) (List.mem_of_getElem? (i := 1) rfl) rfl rfl dX0_addCausesOf_68 ?_
    refine j_iload X 5 dX0_addCausesOf_71 rfl ?_
    obtain ⟨hi2, hf⟩ := f_c hf
    refine j_iald X 0 rfl i475 hi2 dX0_addCausesOf_73 ?_
    refine j_icmp_le (tgt := 88) X dX0_addCausesOf_74 (by decide) (fun c => ?_) (fun c => ?_)
    · replace hf := f_t c hf
      refine j_sub [0, 1, 2, 3, 4, 5] rfl ?_
      exact t_X0_addCausesOf_j88 X Y hf ih hk_kx94
    replace hf := f_f c hf
    refine j_aload_n X 0 dX0_addCausesOf_77 rfl rfl ?_
    refine j_get (ref := "ProxyVersions$Causality") (index := 15) (v := .ref (ad 475)) X oCa inX0_addCausesOf_X0 rfl 2 (by decide) (List.mem_of_getElem? (i := 1) rfl) rfl rfl dX0_addCausesOf_78 ?_
    refine j_iload X 5 dX0_addCausesOf_81 rfl ?_
    refine j_iload X 6 dX0_addCausesOf_83 rfl ?_
    obtain ⟨hi3, hf⟩ := f_c hf
    obtain ⟨w4, ew4, hf⟩ := f_lt hf
    refine j_iast X 0 rfl i475 hi3 dX0_addCausesOf_85 ew4 ?_
    refine j_iconst X (v := (nI 1)) (by decide) dX0_addCausesOf_86 ?_
    refine j_istore_n (lv' := [(0, .ref (ad 473)), (1, .int x1), (2, .int (nI 1)), (3, .int x3), (4, .int x4), (5, .int x5), (6, .int o1)]) X dX0_addCausesOf_87 rfl (by decide) rfl ?_
    refine j_sub [0, 1, 2, 3, 4, 5] rfl ?_
    exact t_X0_addCausesOf_j88 X Y hf ih hk_kx94
set_option maxRecDepth 100000 in
set_option maxHeartbeats 4000000 in
theorem t_X0_addCausesOf_L29 (X : CX p rmX0_addCausesOf s m args c cX0_addCausesOf 7 RX0 wsX0_addCausesOf D (tC cI cL cS) 490 ad) (Y : RX meth (some .boolean)) {x1 : Int32} {x3 : Int32} {out : Int32 × Wd} : ∀ (n : Nat) (x2 : Int32) (x4 : Int32) (w : Wd), m_X0_addCausesOf_L29 x1 x3 n x2 x4 w = some out → WJ p l e rmX0_addCausesOf s m args below meth c (MQ below (QWi D 490 ad (cellC cI cL cS ad) out.1 out.2) args s 0 0 (AW 490 ad)) 7 D 490 ad (cellC cI cL cS ad) w 29 [(0, .ref (ad 473)), (1, .int x1), (2, .int x2), (3, .int x3), (4, .int x4)] [] := by
  intro n
  induction n with
  | zero => intro x2 x4 w hf; exact f_n hf
  | succ n ih =>
    intro x2 x4 w hf
    rw [m_X0_addCausesOf_L29] at hf
    refine j_iload X 4 dX0_addCausesOf_29 rfl ?_
    refine j_bipush X (v := (nI 24)) (by decide) dX0_addCausesOf_31 ?_
    refine j_icmp_gt (tgt := 100) X dX0_addCausesOf_33 (by decide) (fun c => ?_) (fun c => ?_)
    · replace hf := f_t c hf
      refine j_iload_n X 2 dX0_addCausesOf_100 rfl rfl ?_
      exact j_bret X Y (f_p1 hf) (f_p2 hf) dX0_addCausesOf_101
    replace hf := f_f c hf
    refine j_iload X 4 dX0_addCausesOf_36 rfl ?_
    refine j_iload_n X 3 dX0_addCausesOf_38 rfl rfl ?_
    refine j_icmp_gt (tgt := 100) X dX0_addCausesOf_39 (by decide) (fun c => ?_) (fun c => ?_)
    · replace hf := f_t c hf
      refine j_iload_n X 2 dX0_addCausesOf_100 rfl rfl ?_
      exact j_bret X Y (f_p1 hf) (f_p2 hf) dX0_addCausesOf_101
    replace hf := f_f c hf
    refine j_iconst X (v := (nI 0)) (by decide) dX0_addCausesOf_42 ?_
    refine j_istore (lv' := [(0, .ref (ad 473)), (1, .int x1), (2, .int x2), (3, .int x3), (4, .int x4), (5, .int (nI 0))]) X dX0_addCausesOf_43 (by decide) rfl ?_
    refine t_X0_addCausesOf_L45 X Y ?_ _ _ _ _ hf
    intro x2_1 w2 hf
    refine j_iinc (v := (x4 + (nI 1))) (lv' := [(0, .ref (ad 473)), (1, .int x1), (2, .int x2_1), (3, .int x3), (4, .int (x4 + (nI 1)))]) X 4 dX0_addCausesOf_94 rfl rfl (by decide) rfl ?_
    refine j_goto (tgt := 29) X dX0_addCausesOf_97 (by decide) ?_
    exact ih _ _ _ hf
set_option maxRecDepth 100000 in
set_option maxHeartbeats 4000000 in
theorem t_X0_addCausesOf_j25 (X : CX p rmX0_addCausesOf s m args c cX0_addCausesOf 7 RX0 wsX0_addCausesOf D (tC cI cL cS) 490 ad) (Y : RX meth (some .boolean)) {x1 : Int32} {x2 : Int32} {s0 : Int32} {w : Wd} {out : Int32 × Wd} (hf : m_X0_addCausesOf_j25 x1 x2 s0 w = some out) : WJ p l e rmX0_addCausesOf s m args below meth c (MQ below (QWi D 490 ad (cellC cI cL cS ad) out.1 out.2) args s 0 0 (AW 490 ad)) 7 D 490 ad (cellC cI cL cS ad) w 25 [(0, .ref (ad 473)), (1, .int x1), (2, .int x2)] [.int s0] := by
  unfold m_X0_addCausesOf_j25 at hf
  refine j_istore_n (lv' := [(0, .ref (ad 473)), (1, .int x1), (2, .int x2), (3, .int s0)]) X dX0_addCausesOf_25 rfl (by decide) rfl ?_
  refine j_iconst X (v := (nI 1)) (by decide) dX0_addCausesOf_26 ?_
  refine j_istore (lv' := [(0, .ref (ad 473)), (1, .int x1), (2, .int x2), (3, .int s0), (4, .int (nI 1))]) X dX0_addCausesOf_27 (by decide) rfl ?_
  refine t_X0_addCausesOf_L29 X Y _ _ _ _ hf
set_option maxRecDepth 100000 in
set_option maxHeartbeats 4000000 in
theorem t_X0_addCausesOf_j24 (X : CX p rmX0_addCausesOf s m args c cX0_addCausesOf 7 RX0 wsX0_addCausesOf D (tC cI cL cS) 490 ad) (Y : RX meth (some .boolean)) {x1 : Int32} {x2 : Int32} {w : Wd} {out : Int32 × Wd} (hf : m_X0_addCausesOf_j24 x1 x2 w = some out) : WJ p l e rmX0_addCausesOf s m args below meth c (MQ below (QWi D 490 ad (cellC cI cL cS ad) out.1 out.2) args s 0 0 (AW 490 ad)) 7 D 490 ad (cellC cI cL cS ad) w 24 [(0, .ref (ad 473)), (1, .int x1), (2, .int x2)] [] := by
  unfold m_X0_addCausesOf_j24 at hf
  refine j_iconst X (v := (nI 0)) (by decide) dX0_addCausesOf_24 ?_
  exact t_X0_addCausesOf_j25 X Y hf
set_option maxRecDepth 100000 in
set_option maxHeartbeats 4000000 in
theorem c_X0_addCausesOf (hI : Inj 490 ad) {x1 : Int32} {w : Wd} {out : Int32 × Wd} (hf : m_X0_addCausesOf x1 w = some out) : Met l yX0_addCausesOf wsX0_addCausesOf rmX0_addCausesOf (va_Pc [.ref (ad 473), .int x1] (PW D (tC cI cL cS) 490 ad (cellC cI cL cS ad) w)) (QWi D 490 ad (cellC cI cL cS ad) out.1 out.2) 0 0 (AW 490 ad) := by
  refine mk_met (maxL := 7) (ret := (some .boolean)) RX0 hI (by decide) rfl rfl (Nat.le_of_ble_eq_true rfl) rfl rfl (fun p e s m args below meth c X Y => ?_)
  unfold m_X0_addCausesOf at hf
  refine j_iconst X (v := (nI 0)) (by decide) dX0_addCausesOf_0 ?_
  refine j_istore_n (lv' := [(0, .ref (ad 473)), (1, .int x1), (2, .int (nI 0))]) X dX0_addCausesOf_1 rfl (by decide) rfl ?_
  refine j_iload_n X 1 dX0_addCausesOf_2 rfl rfl ?_
  refine j_if_lt (tgt := 24) X dX0_addCausesOf_3 (by decide) (fun c => ?_) (fun c => ?_)
  · replace hf := f_t c hf
    exact t_X0_addCausesOf_j24 X Y hf
  replace hf := f_f c hf
  refine j_iload_n X 1 dX0_addCausesOf_6 rfl rfl ?_
  refine j_aload_n X 0 dX0_addCausesOf_7 rfl rfl ?_
  refine j_get (ref := "ProxyVersions$Causality") (index := 15) (v := .ref (ad 475)) X oCa inX0_addCausesOf_X0 rfl 2 (by decide) (List.mem_of_getElem? (i := 1) rfl) rfl rfl dX0_addCausesOf_8 ?_
  refine j_alen X 0 rfl i475 dX0_addCausesOf_11 ?_
  refine j_icmp_ge (tgt := 24) X dX0_addCausesOf_12 (by decide) (fun c => ?_) (fun c => ?_)
  · replace hf := f_t c hf
    exact t_X0_addCausesOf_j24 X Y hf
  replace hf := f_f c hf
  refine j_aload_n X 0 dX0_addCausesOf_15 rfl rfl ?_
  refine j_get (ref := "ProxyVersions$Causality") (index := 15) (v := .ref (ad 475)) X oCa inX0_addCausesOf_X0 rfl 2 (by decide) (List.mem_of_getElem? (i := 1) rfl) rfl rfl dX0_addCausesOf_16 ?_
  refine j_iload_n X 1 dX0_addCausesOf_19 rfl rfl ?_
  obtain ⟨hi1, hf⟩ := f_c hf
  refine j_iald X 0 rfl i475 hi1 dX0_addCausesOf_20 ?_
  refine j_goto (tgt := 25) X dX0_addCausesOf_21 (by decide) ?_
  exact t_X0_addCausesOf_j25 X Y hf
abbrev rmX0_findNeeds : Room := { frames := 2, cells := 0, slots := 0, locals := 50 }
theorem inX0_findNeeds_X0 : ∀ w ∈ wsX00, w ∈ wsX0_findNeeds := fun _ h => List.mem_cons_of_mem _ (List.mem_append_left _ (List.mem_append_right _ h))
set_option maxRecDepth 100000 in
set_option maxHeartbeats 4000000 in
theorem t_X0_findNeeds_j22 (X : CX p rmX0_findNeeds s m args c cX0_findNeeds 6 RX0 wsX0_findNeeds D (tC cI cL cS) 490 ad) (Y : RX meth none) {x1 : Int32} {x2 : Int32} {x3 : Int32} {s1 : Int32} {s2 : Int32} {w : Wd} {kc : Int32 → Wd → Option (Wd)} {kx29 : Wd → Option (Wd)} {out : Wd} (hf : m_X0_findNeeds_j22 x1 x2 x3 s1 s2 w kc kx29 = some out) (hk_kc : ∀ (y3 : Int32) (v : Wd), kc y3 v = some out → WJ p l e rmX0_findNeeds s m args below meth c (MQ below (QWv D 490 ad (cellC cI cL cS ad) out) args s 0 0 (AW 490 ad)) 6 D 490 ad (cellC cI cL cS ad) v 2 [(0, .ref (ad 473)), (1, .int x1), (2, .int x2), (3, .int y3)] []) (hk_kx29 : ∀  (v : Wd), kx29 v = some out → WJ p l e rmX0_findNeeds s m args below meth c (MQ below (QWv D 490 ad (cellC cI cL cS ad) out) args s 0 0 (AW 490 ad)) 6 D 490 ad (cellC cI cL cS ad) v 29 [(0, .ref (ad 473))] []) : WJ p l e rmX0_findNeeds s m args below meth c (MQ below (QWv D 490 ad (cellC cI cL cS ad) out) args s 0 0 (AW 490 ad)) 6 D 490 ad (cellC cI cL cS ad) w 22 [(0, .ref (ad 473)), (1, .int x1), (2, .int x2), (3, .int x3)] [.int s2, .int s1, .ref (ad 475)] := by
  unfold m_X0_findNeeds_j22 at hf
  obtain ⟨hi1, hf⟩ := f_c hf
  obtain ⟨w2, ew2, hf⟩ := f_lt hf
  refine j_iast X 0 rfl i475 hi1 dX0_findNeeds_22 ew2 ?_
  refine j_iinc (v := (x3 + (nI 1))) (lv' := [(0, .ref (ad 473)), (1, .int x1), (2, .int x2), (3, .int (x3 + (nI 1)))]) X 3 dX0_findNeeds_23 rfl rfl (by decide) rfl ?_
  refine j_goto (tgt := 2) X dX0_findNeeds_26 (by decide) ?_
  exact hk_kc _ _ hf
set_option maxRecDepth 100000 in
set_option maxHeartbeats 4000000 in
theorem t_X0_findNeeds_L2 (X : CX p rmX0_findNeeds s m args c cX0_findNeeds 6 RX0 wsX0_findNeeds D (tC cI cL cS) 490 ad) (Y : RX meth none) {x1 : Int32} {x2 : Int32} {kx29 : Wd → Option (Wd)} {out : Wd} (hk_kx29 : ∀  (v : Wd), kx29 v = some out → WJ p l e rmX0_findNeeds s m args below meth c (MQ below (QWv D 490 ad (cellC cI cL cS ad) out) args s 0 0 (AW 490 ad)) 6 D 490 ad (cellC cI cL cS ad) v 29 [(0, .ref (ad 473))] []) : ∀ (n : Nat) (x3 : Int32) (w : Wd), m_X0_findNeeds_L2 x1 x2 kx29 n x3 w = some out → WJ p l e rmX0_findNeeds s m args below meth c (MQ below (QWv D 490 ad (cellC cI cL cS ad) out) args s 0 0 (AW 490 ad)) 6 D 490 ad (cellC cI cL cS ad) w 2 [(0, .ref (ad 473)), (1, .int x1), (2, .int x2), (3, .int x3)] [] := by
  intro n
  induction n with
  | zero => intro x3 w hf; exact f_n hf
  | succ n ih =>
    intro x3 w hf
    rw [m_X0_findNeeds_L2] at hf
    refine j_iload_n X 3 dX0_findNeeds_2 rfl rfl ?_
    refine j_iconst X (v := (nI 4)) (by decide) dX0_findNeeds_3 ?_
    refine j_icmp_ge (tgt := 29) X dX0_findNeeds_4 (by decide) (fun c => ?_) (fun c => ?_)
    · replace hf := f_t c hf
      refine j_sub [0] rfl ?_
      exact hk_kx29 _ hf
    replace hf := f_f c hf
    refine j_aload_n X 0 dX0_findNeeds_7 rfl rfl ?_
    refine j_get (ref := "ProxyVersions$Causality") (index := 15) (v := .ref (ad 475)) X oCa inX0_findNeeds_X0 rfl 2 (by decide) (List.mem_of_getElem? (i := 1) rfl) rfl rfl dX0_findNeeds_8 ?_
    refine j_iload_n X 3 dX0_findNeeds_11 rfl rfl ?_
    refine j_iload_n X 3 dX0_findNeeds_12 rfl rfl ?_
    refine j_iload_n X 1 dX0_findNeeds_13 rfl rfl ?_
    refine j_icmp_ne (tgt := 21) X dX0_findNeeds_14 (by decide) (fun c => ?_) (fun c => ?_)
    · replace hf := f_t c hf
      refine j_iconst X (v := (nI 0)) (by decide) dX0_findNeeds_21 ?_
      exact t_X0_findNeeds_j22 X Y hf ih hk_kx29
    replace hf := f_fn c hf
    refine j_iload_n X 2 dX0_findNeeds_17 rfl rfl ?_
    refine j_goto (tgt := 22) X dX0_findNeeds_18 (by decide) ?_
    exact t_X0_findNeeds_j22 X Y hf ih hk_kx29
set_option maxRecDepth 100000 in
set_option maxHeartbeats 4000000 in
theorem t_X0_findNeeds_j74 (X : CX p rmX0_findNeeds s m args c cX0_findNeeds 6 RX0 wsX0_findNeeds D (tC cI cL cS) 490 ad) (Y : RX meth none) {x4 : Int32} {x5 : Int32} {s0 : Int32} {w : Wd} {kc : Int32 → Int32 → Wd → Option (Wd)} {kx81 : Int32 → Wd → Option (Wd)} {out : Wd} (hf : m_X0_findNeeds_j74 x4 x5 s0 w kc kx81 = some out) (hk_kc : ∀ (y3 : Int32) (y5 : Int32) (v : Wd), kc y3 y5 v = some out → WJ p l e rmX0_findNeeds s m args below meth c (MQ below (QWv D 490 ad (cellC cI cL cS ad) out) args s 0 0 (AW 490 ad)) 6 D 490 ad (cellC cI cL cS ad) v 50 [(0, .ref (ad 473)), (3, .int y3), (4, .int x4), (5, .int y5)] []) (hk_kx81 : ∀ (y3 : Int32) (v : Wd), kx81 y3 v = some out → WJ p l e rmX0_findNeeds s m args below meth c (MQ below (QWv D 490 ad (cellC cI cL cS ad) out) args s 0 0 (AW 490 ad)) 6 D 490 ad (cellC cI cL cS ad) v 81 [(0, .ref (ad 473)), (3, .int y3), (4, .int x4)] []) : WJ p l e rmX0_findNeeds s m args below meth c (MQ below (QWv D 490 ad (cellC cI cL cS ad) out) args s 0 0 (AW 490 ad)) 6 D 490 ad (cellC cI cL cS ad) w 74 [(0, .ref (ad 473)), (4, .int x4), (5, .int x5)] [.int s0] := by
  unfold m_X0_findNeeds_j74 at hf
  refine j_istore_n (lv' := [(0, .ref (ad 473)), (3, .int s0), (4, .int x4), (5, .int x5)]) X dX0_findNeeds_74 rfl (by decide) rfl ?_
  refine j_iinc (v := (x5 + (nI 1))) (lv' := [(0, .ref (ad 473)), (3, .int s0), (4, .int x4), (5, .int (x5 + (nI 1)))]) X 3 dX0_findNeeds_75 rfl rfl (by decide) rfl ?_
  refine j_goto (tgt := 50) X dX0_findNeeds_78 (by decide) ?_
  exact hk_kc _ _ _ hf
set_option maxRecDepth 100000 in
set_option maxHeartbeats 4000000 in
theorem t_X0_findNeeds_j69 (X : CX p rmX0_findNeeds s m args c cX0_findNeeds 6 RX0 wsX0_findNeeds D (tC cI cL cS) 490 ad) (Y : RX meth none) {x4 : Int32} {x5 : Int32} {w : Wd} {kc : Int32 → Int32 → Wd → Option (Wd)} {kx81 : Int32 → Wd → Option (Wd)} {out : Wd} (hf : m_X0_findNeeds_j69 x4 x5 w kc kx81 = some out) (hk_kc : ∀ (y3 : Int32) (y5 : Int32) (v : Wd), kc y3 y5 v = some out → WJ p l e rmX0_findNeeds s m args below meth c (MQ below (QWv D 490 ad (cellC cI cL cS ad) out) args s 0 0 (AW 490 ad)) 6 D 490 ad (cellC cI cL cS ad) v 50 [(0, .ref (ad 473)), (3, .int y3), (4, .int x4), (5, .int y5)] []) (hk_kx81 : ∀ (y3 : Int32) (v : Wd), kx81 y3 v = some out → WJ p l e rmX0_findNeeds s m args below meth c (MQ below (QWv D 490 ad (cellC cI cL cS ad) out) args s 0 0 (AW 490 ad)) 6 D 490 ad (cellC cI cL cS ad) v 81 [(0, .ref (ad 473)), (3, .int y3), (4, .int x4)] []) : WJ p l e rmX0_findNeeds s m args below meth c (MQ below (QWv D 490 ad (cellC cI cL cS ad) out) args s 0 0 (AW 490 ad)) 6 D 490 ad (cellC cI cL cS ad) w 69 [(0, .ref (ad 473)), (4, .int x4), (5, .int x5)] [] := by
  unfold m_X0_findNeeds_j69 at hf
  refine j_iconst X (v := (nI 1)) (by decide) dX0_findNeeds_69 ?_
  refine j_goto (tgt := 74) X dX0_findNeeds_70 (by decide) ?_
  exact t_X0_findNeeds_j74 X Y hf hk_kc hk_kx81
set_option maxRecDepth 100000 in
set_option maxHeartbeats 4000000 in
theorem t_X0_findNeeds_L50 (X : CX p rmX0_findNeeds s m args c cX0_findNeeds 6 RX0 wsX0_findNeeds D (tC cI cL cS) 490 ad) (Y : RX meth none) {x4 : Int32} {kx81 : Int32 → Wd → Option (Wd)} {out : Wd} (hk_kx81 : ∀ (y3 : Int32) (v : Wd), kx81 y3 v = some out → WJ p l e rmX0_findNeeds s m args below meth c (MQ below (QWv D 490 ad (cellC cI cL cS ad) out) args s 0 0 (AW 490 ad)) 6 D 490 ad (cellC cI cL cS ad) v 81 [(0, .ref (ad 473)), (3, .int y3), (4, .int x4)] []) : ∀ (n : Nat) (x3 : Int32) (x5 : Int32) (w : Wd), m_X0_findNeeds_L50 x4 kx81 n x3 x5 w = some out → WJ p l e rmX0_findNeeds s m args below meth c (MQ below (QWv D 490 ad (cellC cI cL cS ad) out) args s 0 0 (AW 490 ad)) 6 D 490 ad (cellC cI cL cS ad) w 50 [(0, .ref (ad 473)), (3, .int x3), (4, .int x4), (5, .int x5)] [] := by
  intro n
  induction n with
  | zero => intro x3 x5 w hf; exact f_n hf
  | succ n ih =>
    intro x3 x5 w hf
    rw [m_X0_findNeeds_L50] at hf
    refine j_iload X 3 dX0_findNeeds_50 rfl ?_
    refine j_iconst X (v := (nI 4)) (by decide) dX0_findNeeds_52 ?_
    refine j_icmp_ge (tgt := 81) X dX0_findNeeds_53 (by decide) (fun c => ?_) (fun c => ?_)
    · replace hf := f_t c hf
      refine j_sub [0, 1, 2] rfl ?_
      exact hk_kx81 _ _ hf
    replace hf := f_f c hf
    refine j_aload_n X 0 dX0_findNeeds_56 rfl rfl ?_
    refine j_iload X 3 dX0_findNeeds_57 rfl ?_
    obtain ⟨o1, ho1, hf⟩ := f_bd hf
    refine j_callVi X oCa rfl rfl [.int x5] (c_X0_addCausesOf X.2.2.2.2.2.2.2 ho1) (cwV 1 X.2.2.2.2.1 gX0_findNeeds_X0_addCausesOf rfl rfl rfl (by decide +kernel) ⟨Nat.le_of_ble_eq_true rfl, Nat.le_of_ble_eq_true rfl⟩) rfl rfl (Nat.le_of_ble_eq_true rfl) dX0_findNeeds_59 ?_
    refine j_if_ne (tgt := 69) X dX0_findNeeds_62 (by decide) (fun c => ?_) (fun c => ?_)
    · replace hf := f_t c hf
      refine j_sub [0, 2, 3] rfl ?_
      exact t_X0_findNeeds_j69 X Y hf ih hk_kx81
    replace hf := f_fn c hf
    refine j_iload_n X 1 dX0_findNeeds_65 rfl rfl ?_
    refine j_if_eq (tgt := 73) X dX0_findNeeds_66 (by decide) (fun c => ?_) (fun c => ?_)
    · replace hf := f_t c hf
      refine j_iconst X (v := (nI 0)) (by decide) dX0_findNeeds_73 ?_
      refine j_sub [0, 2, 3] rfl ?_
      exact t_X0_findNeeds_j74 X Y hf ih hk_kx81
    replace hf := f_f c hf
    refine j_sub [0, 2, 3] rfl ?_
    exact t_X0_findNeeds_j69 X Y hf ih hk_kx81
set_option maxRecDepth 100000 in
set_option maxHeartbeats 4000000 in
theorem t_X0_findNeeds_L34 (X : CX p rmX0_findNeeds s m args c cX0_findNeeds 6 RX0 wsX0_findNeeds D (tC cI cL cS) 490 ad) (Y : RX meth none) {out : Wd} : ∀ (n : Nat) (x3 : Int32) (x4 : Int32) (w : Wd), m_X0_findNeeds_L34 n x3 x4 w = some out → WJ p l e rmX0_findNeeds s m args below meth c (MQ below (QWv D 490 ad (cellC cI cL cS ad) out) args s 0 0 (AW 490 ad)) 6 D 490 ad (cellC cI cL cS ad) w 34 [(0, .ref (ad 473)), (3, .int x3), (4, .int x4)] [] := by
  intro n
  induction n with
  | zero => intro x3 x4 w hf; exact f_n hf
  | succ n ih =>
    intro x3 x4 w hf
    rw [m_X0_findNeeds_L34] at hf
    refine j_iload X 2 dX0_findNeeds_34 rfl ?_
    refine j_bipush X (v := (nI 96)) (by decide) dX0_findNeeds_36 ?_
    refine j_icmp_gt (tgt := 87) X dX0_findNeeds_38 (by decide) (fun c => ?_) (fun c => ?_)
    · replace hf := f_t c hf
      exact j_vret X Y (f_s hf) dX0_findNeeds_87
    replace hf := f_f c hf
    refine j_iload_n X 1 dX0_findNeeds_41 rfl rfl ?_
    refine j_if_eq (tgt := 87) X dX0_findNeeds_42 (by decide) (fun c => ?_) (fun c => ?_)
    · replace hf := f_t c hf
      exact j_vret X Y (f_s hf) dX0_findNeeds_87
    replace hf := f_f c hf
    refine j_iconst X (v := (nI 0)) (by decide) dX0_findNeeds_45 ?_
    refine j_istore_n (lv' := [(0, .ref (ad 473)), (3, .int (nI 0)), (4, .int x4)]) X dX0_findNeeds_46 rfl (by decide) rfl ?_
    refine j_iconst X (v := (nI 0)) (by decide) dX0_findNeeds_47 ?_
    refine j_istore (lv' := [(0, .ref (ad 473)), (3, .int (nI 0)), (4, .int x4), (5, .int (nI 0))]) X dX0_findNeeds_48 (by decide) rfl ?_
    refine t_X0_findNeeds_L50 X Y ?_ _ _ _ _ hf
    intro x3_1 w2 hf
    refine j_iinc (v := (x4 + (nI 1))) (lv' := [(0, .ref (ad 473)), (3, .int x3_1), (4, .int (x4 + (nI 1)))]) X 2 dX0_findNeeds_81 rfl rfl (by decide) rfl ?_
    refine j_goto (tgt := 34) X dX0_findNeeds_84 (by decide) ?_
    exact ih _ _ _ hf
set_option maxRecDepth 100000 in
set_option maxHeartbeats 4000000 in
theorem c_X0_findNeeds (hI : Inj 490 ad) {x1 : Int32} {x2 : Int32} {w : Wd} {out : Wd} (hf : m_X0_findNeeds x1 x2 w = some out) : Met l yX0_findNeeds wsX0_findNeeds rmX0_findNeeds (va_Pc [.ref (ad 473), .int x1, .int x2] (PW D (tC cI cL cS) 490 ad (cellC cI cL cS ad) w)) (QWv D 490 ad (cellC cI cL cS ad) out) 0 0 (AW 490 ad) := by
  refine mk_met (maxL := 6) (ret := none) RX0 hI (by decide) rfl rfl (Nat.le_of_ble_eq_true rfl) rfl rfl (fun p e s m args below meth c X Y => ?_)
  unfold m_X0_findNeeds at hf
  refine j_iconst X (v := (nI 0)) (by decide) dX0_findNeeds_0 ?_
  refine j_istore_n (lv' := [(0, .ref (ad 473)), (1, .int x1), (2, .int x2), (3, .int (nI 0))]) X dX0_findNeeds_1 rfl (by decide) rfl ?_
  refine t_X0_findNeeds_L2 X Y ?_ _ _ _ hf
  intro w1 hf
  refine j_iconst X (v := (nI 1)) (by decide) dX0_findNeeds_29 ?_
  refine j_istore_n (lv' := [(0, .ref (ad 473)), (3, .int (nI 1))]) X dX0_findNeeds_30 rfl (by decide) rfl ?_
  refine j_iconst X (v := (nI 0)) (by decide) dX0_findNeeds_31 ?_
  refine j_istore (lv' := [(0, .ref (ad 473)), (3, .int (nI 1)), (4, .int (nI 0))]) X dX0_findNeeds_32 (by decide) rfl ?_
  refine t_X0_findNeeds_L34 X Y _ _ _ _ hf
abbrev rmX6_contains : Room := { frames := 0, cells := 0, slots := 0, locals := 0 }
set_option maxRecDepth 100000 in
set_option maxHeartbeats 4000000 in
theorem c_X6_contains (hI : Inj 490 ad) {x0 : Int32} {x1 : Int32} {w : Wd} {out : Int32} (hf : m_X6_contains x0 x1 = some out) : Met l yX6_contains wsX6_contains rmX6_contains (va_Pc [.int x0, .int x1] (PW D (tC cI cL cS) 490 ad (cellC cI cL cS ad) w)) (QWi D 490 ad (cellC cI cL cS ad) out w) 0 0 (AW 490 ad) := by
  refine mk_met (maxL := 2) (ret := (some .boolean)) RX6 hI (by decide) rfl rfl (Nat.le_of_ble_eq_true rfl) rfl rfl (fun p e s m args below meth c X Y => ?_)
  unfold m_X6_contains at hf
  refine j_iload_n X 1 dX6_contains_0 rfl rfl ?_
  refine j_iconst X (v := (nI 1)) (by decide) dX6_contains_1 ?_
  refine j_icmp_lt (tgt := 25) X dX6_contains_2 (by decide) (fun c => ?_) (fun c => ?_)
  · replace hf := f_t c hf
    refine j_iconst X (v := (nI 0)) (by decide) dX6_contains_25 ?_
    exact j_bret X Y (Eq.trans (by decide : (nI 0) &&& 1 = (nI 0)) (f_s hf)) rfl dX6_contains_26
  replace hf := f_f c hf
  refine j_iload_n X 1 dX6_contains_5 rfl rfl ?_
  refine j_bipush X (v := (nI 24)) (by decide) dX6_contains_6 ?_
  refine j_icmp_gt (tgt := 25) X dX6_contains_8 (by decide) (fun c => ?_) (fun c => ?_)
  · replace hf := f_t c hf
    refine j_iconst X (v := (nI 0)) (by decide) dX6_contains_25 ?_
    exact j_bret X Y (Eq.trans (by decide : (nI 0) &&& 1 = (nI 0)) (f_s hf)) rfl dX6_contains_26
  replace hf := f_f c hf
  refine j_iload_n X 0 dX6_contains_11 rfl rfl ?_
  refine j_iload_n X 1 dX6_contains_12 rfl rfl ?_
  refine j_iconst X (v := (nI 1)) (by decide) dX6_contains_13 ?_
  refine j_isub X dX6_contains_14 ?_
  refine j_ishr X dX6_contains_15 ?_
  refine j_iconst X (v := (nI 1)) (by decide) dX6_contains_16 ?_
  refine j_iand X dX6_contains_17 ?_
  refine j_if_eq (tgt := 25) X dX6_contains_18 (by decide) (fun c => ?_) (fun c => ?_)
  · replace hf := f_t c hf
    refine j_iconst X (v := (nI 0)) (by decide) dX6_contains_25 ?_
    exact j_bret X Y (Eq.trans (by decide : (nI 0) &&& 1 = (nI 0)) (f_s hf)) rfl dX6_contains_26
  replace hf := f_f c hf
  refine j_iconst X (v := (nI 1)) (by decide) dX6_contains_21 ?_
  refine j_goto (tgt := 26) X dX6_contains_22 (by decide) ?_
  exact j_bret X Y (Eq.trans (by decide : (nI 1) &&& 1 = (nI 1)) (f_s hf)) rfl dX6_contains_26
abbrev rmX5_knows : Room := { frames := 1, cells := 0, slots := 0, locals := 23 }
set_option maxRecDepth 100000 in
set_option maxHeartbeats 4000000 in
theorem c_X5_knows (hI : Inj 490 ad) {x1 : Int32} {x2 : Int32} {x3 : Int32} {w : Wd} {out : Int32} (hf : m_X5_knows x1 x2 x3 w = some out) : Met l yX5_knows wsX5_knows rmX5_knows (va_Pc [.ref (ad 50), .int x1, .int x2, .int x3] (PW D (tC cI cL cS) 490 ad (cellC cI cL cS ad) w)) (QWi D 490 ad (cellC cI cL cS ad) out w) 0 0 (AW 490 ad) := by
  refine mk_met (maxL := 4) (ret := (some .boolean)) RX5 hI (by decide) rfl rfl (Nat.le_of_ble_eq_true rfl) rfl rfl (fun p e s m args below meth c X Y => ?_)
  unfold m_X5_knows at hf
  refine j_aload_n X 0 dX5_knows_0 rfl rfl ?_
  refine j_iload_n X 1 dX5_knows_1 rfl rfl ?_
  refine j_iload_n X 2 dX5_knows_2 rfl rfl ?_
  obtain ⟨o1, ho1, hf⟩ := f_bd hf
  refine j_callVi X oS0 rfl rfl [.int x1, .int x2] (c_X5_knownOf X.2.2.2.2.2.2.2 ho1) (cwV 2 X.2.2.2.2.1 gX5_knows_X5_knownOf rfl rfl rfl (by decide +kernel) ⟨Nat.le_of_ble_eq_true rfl, Nat.le_of_ble_eq_true rfl⟩) rfl rfl (Nat.le_of_ble_eq_true rfl) dX5_knows_3 ?_
  refine j_iload_n X 3 dX5_knows_6 rfl rfl ?_
  obtain ⟨o2, ho2, hf⟩ := f_bd hf
  refine j_callSi X [.int o1, .int x3] (c_X6_contains X.2.2.2.2.2.2.2 ho2) (va_cwS 2 X.2.2.2.2.1 gX5_knows_X6_contains rfl rfl rfl (by decide +kernel) ⟨Nat.le_of_ble_eq_true rfl, Nat.le_of_ble_eq_true rfl⟩) rfl rfl (Nat.le_of_ble_eq_true rfl) dX5_knows_7 ?_
  exact j_bret X Y (f_s hf) rfl dX5_knows_10
abbrev rmX0_countMissing : Room := { frames := 3, cells := 0, slots := 0, locals := 75 }
theorem inX0_countMissing_X0 : ∀ w ∈ wsX00, w ∈ wsX0_countMissing := fun _ h => List.mem_cons_of_mem _ (List.mem_append_left _ (List.mem_append_right _ h))
set_option maxRecDepth 100000 in
set_option maxHeartbeats 4000000 in
theorem t_X0_countMissing_j58 (X : CX p rmX0_countMissing s m args c cX0_countMissing 7 RX0 wsX0_countMissing D (tC cI cL cS) 490 ad) (Y : RX meth (some .int)) {x1 : Int32} {x4 : Int32} {x5 : Int32} {x6 : Int32} {w : Wd} {kc : Int32 → Int32 → Wd → Option (Int32 × Wd)} {kx64 : Int32 → Wd → Option (Int32 × Wd)} {out : Int32 × Wd} (hf : m_X0_countMissing_j58 x1 x4 x5 x6 w kc kx64 = some out) (hk_kc : ∀ (y4 : Int32) (y6 : Int32) (v : Wd), kc y4 y6 v = some out → WJ p l e rmX0_countMissing s m args below meth c (MQ below (QWi D 490 ad (cellC cI cL cS ad) out.1 out.2) args s 0 0 (AW 490 ad)) 7 D 490 ad (cellC cI cL cS ad) v 21 [(0, .ref (ad 473)), (1, .int x1), (4, .int y4), (5, .int x5), (6, .int y6)] []) (hk_kx64 : ∀ (y4 : Int32) (v : Wd), kx64 y4 v = some out → WJ p l e rmX0_countMissing s m args below meth c (MQ below (QWi D 490 ad (cellC cI cL cS ad) out.1 out.2) args s 0 0 (AW 490 ad)) 7 D 490 ad (cellC cI cL cS ad) v 64 [(0, .ref (ad 473)), (1, .int x1), (4, .int y4), (5, .int x5)] []) : WJ p l e rmX0_countMissing s m args below meth c (MQ below (QWi D 490 ad (cellC cI cL cS ad) out.1 out.2) args s 0 0 (AW 490 ad)) 7 D 490 ad (cellC cI cL cS ad) w 58 [(0, .ref (ad 473)), (1, .int x1), (4, .int x4), (5, .int x5), (6, .int x6)] [] := by
  unfold m_X0_countMissing_j58 at hf
  refine j_iinc (v := (x6 + (nI 1))) (lv' := [(0, .ref (ad 473)), (1, .int x1), (4, .int x4), (5, .int x5), (6, .int (x6 + (nI 1)))]) X 4 dX0_countMissing_58 rfl rfl (by decide) rfl ?_
  refine j_goto (tgt := 21) X dX0_countMissing_61 (by decide) ?_
  exact hk_kc _ _ _ hf
set_option maxRecDepth 100000 in
set_option maxHeartbeats 4000000 in
theorem t_X0_countMissing_L21 (X : CX p rmX0_countMissing s m args c cX0_countMissing 7 RX0 wsX0_countMissing D (tC cI cL cS) 490 ad) (Y : RX meth (some .int)) {x1 : Int32} {x5 : Int32} {kx64 : Int32 → Wd → Option (Int32 × Wd)} {out : Int32 × Wd} (hk_kx64 : ∀ (y4 : Int32) (v : Wd), kx64 y4 v = some out → WJ p l e rmX0_countMissing s m args below meth c (MQ below (QWi D 490 ad (cellC cI cL cS ad) out.1 out.2) args s 0 0 (AW 490 ad)) 7 D 490 ad (cellC cI cL cS ad) v 64 [(0, .ref (ad 473)), (1, .int x1), (4, .int y4), (5, .int x5)] []) : ∀ (n : Nat) (x4 : Int32) (x6 : Int32) (w : Wd), m_X0_countMissing_L21 x1 x5 kx64 n x4 x6 w = some out → WJ p l e rmX0_countMissing s m args below meth c (MQ below (QWi D 490 ad (cellC cI cL cS ad) out.1 out.2) args s 0 0 (AW 490 ad)) 7 D 490 ad (cellC cI cL cS ad) w 21 [(0, .ref (ad 473)), (1, .int x1), (4, .int x4), (5, .int x5), (6, .int x6)] [] := by
  intro n
  induction n with
  | zero => intro x4 x6 w hf; exact f_n hf
  | succ n ih =>
    intro x4 x6 w hf
    rw [m_X0_countMissing_L21] at hf
    refine j_iload X 4 dX0_countMissing_21 rfl ?_
    refine j_bipush X (v := (nI 24)) (by decide) dX0_countMissing_23 ?_
    refine j_icmp_gt (tgt := 64) X dX0_countMissing_25 (by decide) (fun c => ?_) (fun c => ?_)
    · replace hf := f_t c hf
      refine j_sub [0, 1, 2, 3] rfl ?_
      exact hk_kx64 _ _ hf
    replace hf := f_f c hf
    refine j_iload X 4 dX0_countMissing_28 rfl ?_
    refine j_aload_n X 0 dX0_countMissing_30 rfl rfl ?_
    refine j_get (ref := "ProxyVersions$Causality") (index := 15) (v := .ref (ad 475)) X oCa inX0_countMissing_X0 rfl 2 (by decide) (List.mem_of_getElem? (i := 1) rfl) rfl rfl dX0_countMissing_31 ?_
    refine j_iload X 3 dX0_countMissing_34 rfl ?_
    obtain ⟨hi1, hf⟩ := f_c hf
    refine j_iald X 0 rfl i475 hi1 dX0_countMissing_36 ?_
    refine j_icmp_gt (tgt := 64) X dX0_countMissing_37 (by decide) (fun c => ?_) (fun c => ?_)
    · replace hf := f_t c hf
      refine j_sub [0, 1, 2, 3] rfl ?_
      exact hk_kx64 _ _ hf
    replace hf := f_f c hf
    refine j_aload_n X 0 dX0_countMissing_40 rfl rfl ?_
    refine j_get (ref := "ProxyVersions$Causality") (index := 18) (v := .ref (ad 50)) X oCa inX0_countMissing_X0 rfl 0 (by decide) (List.mem_of_getElem? (i := 2) rfl) rfl rfl dX0_countMissing_41 ?_
    refine j_iload_n X 1 dX0_countMissing_44 rfl rfl ?_
    refine j_iload X 3 dX0_countMissing_45 rfl ?_
    refine j_iload X 4 dX0_countMissing_47 rfl ?_
    obtain ⟨o2, ho2, hf⟩ := f_bd hf
    refine j_callVi X oS0 rfl rfl [.int x1, .int x5, .int x6] (c_X5_knows X.2.2.2.2.2.2.2 ho2) (cwV 3 X.2.2.2.2.1 gX0_countMissing_X5_knows rfl rfl rfl (by decide +kernel) ⟨Nat.le_of_ble_eq_true rfl, Nat.le_of_ble_eq_true rfl⟩) rfl rfl (Nat.le_of_ble_eq_true rfl) dX0_countMissing_49 ?_
    refine j_if_ne (tgt := 58) X dX0_countMissing_52 (by decide) (fun c => ?_) (fun c => ?_)
    · replace hf := f_t c hf
      exact t_X0_countMissing_j58 X Y hf ih hk_kx64
    replace hf := f_fn c hf
    refine j_iinc (v := (x4 + (nI 1))) (lv' := [(0, .ref (ad 473)), (1, .int x1), (4, .int (x4 + (nI 1))), (5, .int x5), (6, .int x6)]) X 2 dX0_countMissing_55 rfl rfl (by decide) rfl ?_
    exact t_X0_countMissing_j58 X Y hf ih hk_kx64
set_option maxRecDepth 100000 in
set_option maxHeartbeats 4000000 in
theorem t_X0_countMissing_j64 (X : CX p rmX0_countMissing s m args c cX0_countMissing 7 RX0 wsX0_countMissing D (tC cI cL cS) 490 ad) (Y : RX meth (some .int)) {x1 : Int32} {x4 : Int32} {x5 : Int32} {w : Wd} {kc : Int32 → Int32 → Wd → Option (Int32 × Wd)} {out : Int32 × Wd} (hf : m_X0_countMissing_j64 x1 x4 x5 w kc = some out) (hk_kc : ∀ (y4 : Int32) (y5 : Int32) (v : Wd), kc y4 y5 v = some out → WJ p l e rmX0_countMissing s m args below meth c (MQ below (QWi D 490 ad (cellC cI cL cS ad) out.1 out.2) args s 0 0 (AW 490 ad)) 7 D 490 ad (cellC cI cL cS ad) v 12 [(0, .ref (ad 473)), (1, .int x1), (4, .int y4), (5, .int y5)] []) : WJ p l e rmX0_countMissing s m args below meth c (MQ below (QWi D 490 ad (cellC cI cL cS ad) out.1 out.2) args s 0 0 (AW 490 ad)) 7 D 490 ad (cellC cI cL cS ad) w 64 [(0, .ref (ad 473)), (1, .int x1), (4, .int x4), (5, .int x5)] [] := by
  unfold m_X0_countMissing_j64 at hf
  refine j_iinc (v := (x5 + (nI 1))) (lv' := [(0, .ref (ad 473)), (1, .int x1), (4, .int x4), (5, .int (x5 + (nI 1)))]) X 3 dX0_countMissing_64 rfl rfl (by decide) rfl ?_
  refine j_goto (tgt := 12) X dX0_countMissing_67 (by decide) ?_
  exact hk_kc _ _ _ hf
set_option maxRecDepth 100000 in
set_option maxHeartbeats 4000000 in
theorem t_X0_countMissing_L12 (X : CX p rmX0_countMissing s m args c cX0_countMissing 7 RX0 wsX0_countMissing D (tC cI cL cS) 490 ad) (Y : RX meth (some .int)) {x1 : Int32} {out : Int32 × Wd} : ∀ (n : Nat) (x4 : Int32) (x5 : Int32) (w : Wd), m_X0_countMissing_L12 x1 n x4 x5 w = some out → WJ p l e rmX0_countMissing s m args below meth c (MQ below (QWi D 490 ad (cellC cI cL cS ad) out.1 out.2) args s 0 0 (AW 490 ad)) 7 D 490 ad (cellC cI cL cS ad) w 12 [(0, .ref (ad 473)), (1, .int x1), (4, .int x4), (5, .int x5)] [] := by
  intro n
  induction n with
  | zero => intro x4 x5 w hf; exact f_n hf
  | succ n ih =>
    intro x4 x5 w hf
    rw [m_X0_countMissing_L12] at hf
    refine j_iload X 3 dX0_countMissing_12 rfl ?_
    refine j_iconst X (v := (nI 4)) (by decide) dX0_countMissing_14 ?_
    refine j_icmp_ge (tgt := 70) X dX0_countMissing_15 (by decide) (fun c => ?_) (fun c => ?_)
    · replace hf := f_t c hf
      refine j_iload X 2 dX0_countMissing_70 rfl ?_
      exact j_iret X Y (f_p1 hf) (f_p2 hf) dX0_countMissing_72
    replace hf := f_f c hf
    refine j_iconst X (v := (nI 1)) (by decide) dX0_countMissing_18 ?_
    refine j_istore (lv' := [(0, .ref (ad 473)), (1, .int x1), (4, .int x4), (5, .int x5), (6, .int (nI 1))]) X dX0_countMissing_19 (by decide) rfl ?_
    refine t_X0_countMissing_L21 X Y ?_ _ _ _ _ hf
    intro x4_1 w2 hf
    exact t_X0_countMissing_j64 X Y hf ih
set_option maxRecDepth 100000 in
set_option maxHeartbeats 4000000 in
theorem c_X0_countMissing (hI : Inj 490 ad) {x1 : Int32} {x2 : Int32} {x3 : Int32} {w : Wd} {out : Int32 × Wd} (hf : m_X0_countMissing x1 x2 x3 w = some out) : Met l yX0_countMissing wsX0_countMissing rmX0_countMissing (va_Pc [.ref (ad 473), .int x1, .int x2, .int x3] (PW D (tC cI cL cS) 490 ad (cellC cI cL cS ad) w)) (QWi D 490 ad (cellC cI cL cS ad) out.1 out.2) 0 0 (AW 490 ad) := by
  refine mk_met (maxL := 7) (ret := (some .int)) RX0 hI (by decide) rfl rfl (Nat.le_of_ble_eq_true rfl) rfl rfl (fun p e s m args below meth c X Y => ?_)
  unfold m_X0_countMissing at hf
  refine j_aload_n X 0 dX0_countMissing_0 rfl rfl ?_
  refine j_iload_n X 2 dX0_countMissing_1 rfl rfl ?_
  refine j_iload_n X 3 dX0_countMissing_2 rfl rfl ?_
  obtain ⟨o1, ho1, hf⟩ := f_bd hf
  refine j_callVv X oCa rfl rfl [.int x2, .int x3] (c_X0_findNeeds X.2.2.2.2.2.2.2 ho1) (cwV 2 X.2.2.2.2.1 gX0_countMissing_X0_findNeeds rfl rfl rfl (by decide +kernel) ⟨Nat.le_of_ble_eq_true rfl, Nat.le_of_ble_eq_true rfl⟩) rfl rfl (Nat.le_of_ble_eq_true rfl) dX0_countMissing_3 ?_
  refine j_iconst X (v := (nI 0)) (by decide) dX0_countMissing_6 ?_
  refine j_istore (lv' := [(0, .ref (ad 473)), (1, .int x1), (2, .int x2), (3, .int x3), (4, .int (nI 0))]) X dX0_countMissing_7 (by decide) rfl ?_
  refine j_iconst X (v := (nI 0)) (by decide) dX0_countMissing_9 ?_
  refine j_istore (lv' := [(0, .ref (ad 473)), (1, .int x1), (2, .int x2), (3, .int x3), (4, .int (nI 0)), (5, .int (nI 0))]) X dX0_countMissing_10 (by decide) rfl ?_
  refine j_sub [0, 1, 4, 5] rfl ?_
  refine t_X0_countMissing_L12 X Y _ _ _ _ hf
abbrev rmX1_savedCount : Room := { frames := 0, cells := 0, slots := 0, locals := 0 }
theorem inX1_savedCount_X1 : ∀ w ∈ wsX10, w ∈ wsX1_savedCount := fun _ h => List.mem_cons_of_mem _ (List.mem_append_right _ h)
set_option maxRecDepth 100000 in
set_option maxHeartbeats 4000000 in
theorem c_X1_savedCount (hI : Inj 490 ad) {w : Wd} {out : Int32} (hf : m_X1_savedCount w = some out) : Met l yX1_savedCount wsX1_savedCount rmX1_savedCount (va_Pc [.ref (ad 477)] (PW D (tC cI cL cS) 490 ad (cellC cI cL cS ad) w)) (QWi D 490 ad (cellC cI cL cS ad) out w) 0 0 (AW 490 ad) := by
  refine mk_met (maxL := 1) (ret := (some .int)) RX1 hI (by decide) rfl rfl (Nat.le_of_ble_eq_true rfl) rfl rfl (fun p e s m args below meth c X Y => ?_)
  unfold m_X1_savedCount at hf
  refine j_aload_n X 0 dX1_savedCount_0 rfl rfl ?_
  refine j_get (ref := "ProxyVersions$History") (index := 18) (v := .int (w 477 2)) X oHi inX1_savedCount_X1 rfl 2 (by decide) (List.mem_of_getElem? (i := 1) rfl) rfl rfl dX1_savedCount_1 ?_
  exact j_iret X Y (f_s hf) rfl dX1_savedCount_4
abbrev rmJ9_floorMod_7cf53 : Room := { frames := 0, cells := 0, slots := 0, locals := 0 }
set_option maxRecDepth 100000 in
set_option maxHeartbeats 4000000 in
theorem c_J9_floorMod_7cf53 (hI : Inj 490 ad) {x0 : Int32} {x1 : Int32} {w : Wd} {out : Int32} (hf : m_J9_floorMod_7cf53 x0 x1 = some out) : Met l yJ9_floorMod_7cf53 wsJ9_floorMod_7cf53 rmJ9_floorMod_7cf53 (va_Pc [.int x0, .int x1] (PW D (tC cI cL cS) 490 ad (cellC cI cL cS ad) w)) (QWi D 490 ad (cellC cI cL cS ad) out w) 0 0 (AW 490 ad) := by
  refine mk_metF (maxL := 3) (ret := (some .int)) RJ9 hI (by decide +kernel) rfl rfl (Nat.le_of_ble_eq_true rfl) rfl rfl (fun p e s m args below meth c X Y => ?_)
  unfold m_J9_floorMod_7cf53 at hf
  refine j_iload_n X 0 dJ9_floorMod_7cf53_0 rfl rfl ?_
  refine j_iload_n X 1 dJ9_floorMod_7cf53_1 rfl rfl ?_
  obtain ⟨hne1, hf⟩ := f_c2 hf
  refine j_irem X hne1 dJ9_floorMod_7cf53_2 ?_
  obtain ⟨x2_2, ex2_2, hf⟩ := f_lt hf
  refine j_top ex2_2 ?_
  refine j_istore_n (lv' := [(0, .int x0), (1, .int x1), (2, .int x2_2)]) X dJ9_floorMod_7cf53_3 rfl (by decide) rfl ?_
  refine j_iload_n X 0 dJ9_floorMod_7cf53_4 rfl rfl ?_
  refine j_iload_n X 1 dJ9_floorMod_7cf53_5 rfl rfl ?_
  refine j_ixor X dJ9_floorMod_7cf53_6 ?_
  refine j_if_ge (tgt := 18) X dJ9_floorMod_7cf53_7 (by decide) (fun c => ?_) (fun c => ?_)
  · replace hf := f_t c hf
    refine j_iload_n X 2 dJ9_floorMod_7cf53_18 rfl rfl ?_
    exact j_iret X Y (f_s hf) rfl dJ9_floorMod_7cf53_19
  replace hf := f_f c hf
  refine j_iload_n X 2 dJ9_floorMod_7cf53_10 rfl rfl ?_
  refine j_if_eq (tgt := 18) X dJ9_floorMod_7cf53_11 (by decide) (fun c => ?_) (fun c => ?_)
  · replace hf := f_t c hf
    refine j_iload_n X 2 dJ9_floorMod_7cf53_18 rfl rfl ?_
    exact j_iret X Y (f_s hf) rfl dJ9_floorMod_7cf53_19
  replace hf := f_f c hf
  refine j_iload_n X 2 dJ9_floorMod_7cf53_14 rfl rfl ?_
  refine j_iload_n X 1 dJ9_floorMod_7cf53_15 rfl rfl ?_
  refine j_iadd X dJ9_floorMod_7cf53_16 ?_
  exact j_iret X Y (f_s hf) rfl dJ9_floorMod_7cf53_17
abbrev rmX2_copyFrom : Room := { frames := 1, cells := 0, slots := 0, locals := 60 }
theorem inX2_copyFrom_X2 : ∀ w ∈ wsX20, w ∈ wsX2_copyFrom := fun _ h => List.mem_cons_of_mem _ (List.mem_append_right _ h)
set_option maxRecDepth 100000 in
set_option maxHeartbeats 4000000 in
theorem c_X2_copyFrom (hI : Inj 490 ad) {q0 : Nat} {q1 : Nat} {w : Wd} {out : Wd} (hq0 : isLn q0) (hq1 : isLn q1) (hf : m_X2_copyFrom q0 q1 w = some out) : Met l yX2_copyFrom wsX2_copyFrom rmX2_copyFrom (va_Pc [.ref (ad q0), .ref (ad q1)] (PW D (tC cI cL cS) 490 ad (cellC cI cL cS ad) w)) (QWv D 490 ad (cellC cI cL cS ad) out) 0 0 (AW 490 ad) := by
  refine mk_met (maxL := 2) (ret := none) RX2 hI (by decide) rfl rfl (Nat.le_of_ble_eq_true rfl) rfl rfl (fun p e s m args below meth c X Y => ?_)
  unfold m_X2_copyFrom at hf
  refine j_aload_n X 1 dX2_copyFrom_0 rfl rfl ?_
  refine j_get (ref := "ProxyVersions$Line") (index := 13) (v := .ref (ad (q1 + 1))) X (oLn hq1) inX2_copyFrom_X2 rfl 0 (by decide) (List.mem_of_getElem? (i := 1) rfl) rfl rfl dX2_copyFrom_1 ?_
  refine j_iconst X (v := (nI 0)) (by decide) dX2_copyFrom_4 ?_
  refine j_aload_n X 0 dX2_copyFrom_5 rfl rfl ?_
  refine j_get (ref := "ProxyVersions$Line") (index := 13) (v := .ref (ad (q0 + 1))) X (oLn hq0) inX2_copyFrom_X2 rfl 0 (by decide) (List.mem_of_getElem? (i := 1) rfl) rfl rfl dX2_copyFrom_6 ?_
  refine j_iconst X (v := (nI 0)) (by decide) dX2_copyFrom_9 ?_
  refine j_aload_n X 1 dX2_copyFrom_10 rfl rfl ?_
  refine j_get (ref := "ProxyVersions$Line") (index := 13) (v := .ref (ad (q1 + 1))) X (oLn hq1) inX2_copyFrom_X2 rfl 0 (by decide) (List.mem_of_getElem? (i := 1) rfl) rfl rfl dX2_copyFrom_11 ?_
  refine j_alen X 0 rfl (iLn hq1) dX2_copyFrom_14 ?_
  refine j_aload_n X 0 dX2_copyFrom_15 rfl rfl ?_
  refine j_get (ref := "ProxyVersions$Line") (index := 13) (v := .ref (ad (q0 + 1))) X (oLn hq0) inX2_copyFrom_X2 rfl 0 (by decide) (List.mem_of_getElem? (i := 1) rfl) rfl rfl dX2_copyFrom_16 ?_
  refine j_alen X 0 rfl (iLn hq0) dX2_copyFrom_19 ?_
  refine j_mmin X (List.mem_of_getElem? (i := 2) rfl) (List.mem_of_getElem? (i := 3) rfl) (List.mem_of_getElem? (i := 4) rfl) (List.mem_of_getElem? (i := 5) rfl) (Nat.le_of_ble_eq_true rfl) (Nat.le_of_ble_eq_true rfl) dX2_copyFrom_20 ?_
  obtain ⟨hi1, hf⟩ := f_c hf
  obtain ⟨w2, ew2, hf⟩ := f_lt hf
  refine j_copy X (List.mem_of_getElem? (i := 6) rfl) (List.mem_of_getElem? (i := 7) rfl) (List.mem_of_getElem? (i := 8) rfl) (List.mem_of_getElem? (i := 9) rfl) 0 rfl (iLn hq1) (iLn hq0) hi1.1 hi1.2.1 hi1.2.2.1 hi1.2.2.2.1 hi1.2.2.2.2 (Nat.le_of_ble_eq_true rfl) (by decide +kernel) dX2_copyFrom_23 ew2 ?_
  refine j_aload_n X 0 dX2_copyFrom_26 rfl rfl ?_
  refine j_aload_n X 1 dX2_copyFrom_27 rfl rfl ?_
  refine j_get (ref := "ProxyVersions$Line") (index := 19) (v := .int (w2 q1 1)) X (oLn hq1) inX2_copyFrom_X2 rfl 1 (by decide) (List.mem_of_getElem? (i := 10) rfl) rfl rfl dX2_copyFrom_28 ?_
  refine j_aload_n X 0 dX2_copyFrom_31 rfl rfl ?_
  refine j_get (ref := "ProxyVersions$Line") (index := 13) (v := .ref (ad (q0 + 1))) X (oLn hq0) inX2_copyFrom_X2 rfl 0 (by decide) (List.mem_of_getElem? (i := 1) rfl) rfl rfl dX2_copyFrom_32 ?_
  refine j_alen X 0 rfl (iLn hq0) dX2_copyFrom_35 ?_
  refine j_mmin X (List.mem_of_getElem? (i := 2) rfl) (List.mem_of_getElem? (i := 3) rfl) (List.mem_of_getElem? (i := 4) rfl) (List.mem_of_getElem? (i := 5) rfl) (Nat.le_of_ble_eq_true rfl) (Nat.le_of_ble_eq_true rfl) dX2_copyFrom_36 ?_
  obtain ⟨w3, ew3, hf⟩ := f_lt hf
  refine j_put (ref := "ProxyVersions$Line") (index := 19)  X (oLn hq0) inX2_copyFrom_X2 tyX2_ok nmX2 rfl 1 (by decide) (List.mem_of_getElem? (i := 10) rfl) rfl rfl rfl (Nat.le_of_ble_eq_true rfl) rfl dX2_copyFrom_39 ew3 ?_
  exact j_vret X Y (f_s hf) dX2_copyFrom_42
abbrev rmX5_copyFrom : Room := { frames := 2, cells := 0, slots := 0, locals := 81 }
theorem inX5_copyFrom_X5 : ∀ w ∈ wsX50, w ∈ wsX5_copyFrom := fun _ h => List.mem_cons_of_mem _ (List.mem_append_left _ (List.mem_append_right _ h))
set_option maxRecDepth 100000 in
set_option maxHeartbeats 4000000 in
theorem t_X5_copyFrom_L132 (X : CX p rmX5_copyFrom s m args c cX5_copyFrom 3 RX5 wsX5_copyFrom D (tC cI cL cS) 490 ad) (Y : RX meth none) {z0 : Nat} {z1 : Nat} {out : Wd} (hz0 : z0 < 8) (hz1 : z1 < 8) : ∀ (n : Nat) (x2 : Int32) (w : Wd), m_X5_copyFrom_L132 z0 z1 n x2 w = some out → WJ p l e rmX5_copyFrom s m args below meth c (MQ below (QWv D 490 ad (cellC cI cL cS ad) out) args s 0 0 (AW 490 ad)) 3 D 490 ad (cellC cI cL cS ad) w 132 [(0, .ref (ad (59 * z0 + 50))), (1, .ref (ad (59 * z1 + 50))), (2, .int x2)] [] := by
  intro n
  induction n with
  | zero => intro x2 w hf; exact f_n hf
  | succ n ih =>
    intro x2 w hf
    rw [m_X5_copyFrom_L132] at hf
    refine j_iload_n X 2 dX5_copyFrom_132 rfl rfl ?_
    refine j_bipush X (v := (nI 8)) (by decide) dX5_copyFrom_133 ?_
    refine j_icmp_ge (tgt := 189) X dX5_copyFrom_135 (by decide) (fun c => ?_) (fun c => ?_)
    · replace hf := f_t c hf
      exact j_vret X Y (f_s hf) dX5_copyFrom_189
    replace hf := f_f c hf
    refine j_aload_n X 0 dX5_copyFrom_138 rfl rfl ?_
    refine j_get (ref := "ProxyVersions$State") (index := 39) (v := .ref (ad (59 * z0 + 56))) X (oSt hz0) inX5_copyFrom_X5 rfl 12 (by decide) (List.mem_of_getElem? (i := 17) rfl) rfl rfl dX5_copyFrom_139 ?_
    refine j_iload_n X 2 dX5_copyFrom_142 rfl rfl ?_
    obtain ⟨hi1, hf⟩ := f_c hf
    refine j_aald X 1 rfl (qSt56 hz0) hi1 dX5_copyFrom_143 ?_
    refine j_aload_n X 1 dX5_copyFrom_144 rfl rfl ?_
    refine j_get (ref := "ProxyVersions$State") (index := 39) (v := .ref (ad (59 * z1 + 56))) X (oSt hz1) inX5_copyFrom_X5 rfl 12 (by decide) (List.mem_of_getElem? (i := 17) rfl) rfl rfl dX5_copyFrom_145 ?_
    refine j_iload_n X 2 dX5_copyFrom_148 rfl rfl ?_
    obtain ⟨hi2, hf⟩ := f_c hf
    refine j_aald X 1 rfl (qSt56 hz1) hi2 dX5_copyFrom_149 ?_
    obtain ⟨o3, ho3, hf⟩ := f_bd hf
    refine j_callVv X (oLn (lnS56 hz0 hi1)) rfl rfl [.ref (ad (59 * z1 + 2 * x2.toNatClampNeg))] (c_X2_copyFrom X.2.2.2.2.2.2.2 (lnS56 hz0 hi1) (lnS56 hz1 hi2) ho3) (cwV 1 X.2.2.2.2.1 gX5_copyFrom_X2_copyFrom rfl rfl rfl (by decide +kernel) ⟨Nat.le_of_ble_eq_true rfl, Nat.le_of_ble_eq_true rfl⟩) rfl rfl (Nat.le_of_ble_eq_true rfl) dX5_copyFrom_150 ?_
    refine j_aload_n X 0 dX5_copyFrom_153 rfl rfl ?_
    refine j_get (ref := "ProxyVersions$State") (index := 43) (v := .ref (ad (59 * z0 + 57))) X (oSt hz0) inX5_copyFrom_X5 rfl 13 (by decide) (List.mem_of_getElem? (i := 18) rfl) rfl rfl dX5_copyFrom_154 ?_
    refine j_iload_n X 2 dX5_copyFrom_157 rfl rfl ?_
    obtain ⟨hi4, hf⟩ := f_c hf
    refine j_aald X 1 rfl (qSt57 hz0) hi4 dX5_copyFrom_158 ?_
    refine j_aload_n X 1 dX5_copyFrom_159 rfl rfl ?_
    refine j_get (ref := "ProxyVersions$State") (index := 43) (v := .ref (ad (59 * z1 + 57))) X (oSt hz1) inX5_copyFrom_X5 rfl 13 (by decide) (List.mem_of_getElem? (i := 18) rfl) rfl rfl dX5_copyFrom_160 ?_
    refine j_iload_n X 2 dX5_copyFrom_163 rfl rfl ?_
    obtain ⟨hi5, hf⟩ := f_c hf
    refine j_aald X 1 rfl (qSt57 hz1) hi5 dX5_copyFrom_164 ?_
    obtain ⟨o6, ho6, hf⟩ := f_bd hf
    refine j_callVv X (oLn (lnS57 hz0 hi4)) rfl rfl [.ref (ad (59 * z1 + 16 + 2 * x2.toNatClampNeg))] (c_X2_copyFrom X.2.2.2.2.2.2.2 (lnS57 hz0 hi4) (lnS57 hz1 hi5) ho6) (cwV 1 X.2.2.2.2.1 gX5_copyFrom_X2_copyFrom rfl rfl rfl (by decide +kernel) ⟨Nat.le_of_ble_eq_true rfl, Nat.le_of_ble_eq_true rfl⟩) rfl rfl (Nat.le_of_ble_eq_true rfl) dX5_copyFrom_165 ?_
    refine j_aload_n X 0 dX5_copyFrom_168 rfl rfl ?_
    refine j_get (ref := "ProxyVersions$State") (index := 46) (v := .ref (ad (59 * z0 + 58))) X (oSt hz0) inX5_copyFrom_X5 rfl 14 (by decide) (List.mem_of_getElem? (i := 19) rfl) rfl rfl dX5_copyFrom_169 ?_
    refine j_iload_n X 2 dX5_copyFrom_172 rfl rfl ?_
    obtain ⟨hi7, hf⟩ := f_c hf
    refine j_aald X 1 rfl (qSt58 hz0) hi7 dX5_copyFrom_173 ?_
    refine j_aload_n X 1 dX5_copyFrom_174 rfl rfl ?_
    refine j_get (ref := "ProxyVersions$State") (index := 46) (v := .ref (ad (59 * z1 + 58))) X (oSt hz1) inX5_copyFrom_X5 rfl 14 (by decide) (List.mem_of_getElem? (i := 19) rfl) rfl rfl dX5_copyFrom_175 ?_
    refine j_iload_n X 2 dX5_copyFrom_178 rfl rfl ?_
    obtain ⟨hi8, hf⟩ := f_c hf
    refine j_aald X 1 rfl (qSt58 hz1) hi8 dX5_copyFrom_179 ?_
    obtain ⟨o9, ho9, hf⟩ := f_bd hf
    refine j_callVv X (oLn (lnS58 hz0 hi7)) rfl rfl [.ref (ad (59 * z1 + 32 + 2 * x2.toNatClampNeg))] (c_X2_copyFrom X.2.2.2.2.2.2.2 (lnS58 hz0 hi7) (lnS58 hz1 hi8) ho9) (cwV 1 X.2.2.2.2.1 gX5_copyFrom_X2_copyFrom rfl rfl rfl (by decide +kernel) ⟨Nat.le_of_ble_eq_true rfl, Nat.le_of_ble_eq_true rfl⟩) rfl rfl (Nat.le_of_ble_eq_true rfl) dX5_copyFrom_180 ?_
    refine j_iinc (v := (x2 + (nI 1))) (lv' := [(0, .ref (ad (59 * z0 + 50))), (1, .ref (ad (59 * z1 + 50))), (2, .int (x2 + (nI 1)))]) X 2 dX5_copyFrom_183 rfl rfl (by decide) rfl ?_
    refine j_goto (tgt := 132) X dX5_copyFrom_186 (by decide) ?_
    exact ih _ _ hf
set_option maxRecDepth 100000 in
set_option maxHeartbeats 4000000 in
theorem c_X5_copyFrom (hI : Inj 490 ad) {z0 : Nat} {z1 : Nat} {w : Wd} {out : Wd} (hz0 : z0 < 8) (hz1 : z1 < 8) (hf : m_X5_copyFrom z0 z1 w = some out) : Met l yX5_copyFrom wsX5_copyFrom rmX5_copyFrom (va_Pc [.ref (ad (59 * z0 + 50)), .ref (ad (59 * z1 + 50))] (PW D (tC cI cL cS) 490 ad (cellC cI cL cS ad) w)) (QWv D 490 ad (cellC cI cL cS ad) out) 0 0 (AW 490 ad) := by
  refine mk_met (maxL := 3) (ret := none) RX5 hI (by decide) rfl rfl (Nat.le_of_ble_eq_true rfl) rfl rfl (fun p e s m args below meth c X Y => ?_)
  unfold m_X5_copyFrom at hf
  refine j_aload_n X 0 dX5_copyFrom_0 rfl rfl ?_
  refine j_aload_n X 1 dX5_copyFrom_1 rfl rfl ?_
  refine j_get (ref := "ProxyVersions$State") (index := 9) (v := .int (w (59 * z1 + 50) 0)) X (oSt hz1) inX5_copyFrom_X5 rfl 0 (by decide) (List.mem_of_getElem? (i := 1) rfl) rfl rfl dX5_copyFrom_2 ?_
  obtain ⟨w1, ew1, hf⟩ := f_lt hf
  refine j_put (ref := "ProxyVersions$State") (index := 9)  X (oSt hz0) inX5_copyFrom_X5 tyX5_ok nmX5 rfl 0 (by decide) (List.mem_of_getElem? (i := 1) rfl) rfl rfl rfl (Nat.le_of_ble_eq_true rfl) rfl dX5_copyFrom_5 ew1 ?_
  refine j_aload_n X 0 dX5_copyFrom_8 rfl rfl ?_
  refine j_aload_n X 1 dX5_copyFrom_9 rfl rfl ?_
  refine j_get (ref := "ProxyVersions$State") (index := 15) (v := .int (w1 (59 * z1 + 50) 1)) X (oSt hz1) inX5_copyFrom_X5 rfl 1 (by decide) (List.mem_of_getElem? (i := 2) rfl) rfl rfl dX5_copyFrom_10 ?_
  obtain ⟨w2, ew2, hf⟩ := f_lt hf
  refine j_put (ref := "ProxyVersions$State") (index := 15)  X (oSt hz0) inX5_copyFrom_X5 tyX5_ok nmX5 rfl 1 (by decide) (List.mem_of_getElem? (i := 2) rfl) rfl rfl rfl (Nat.le_of_ble_eq_true rfl) rfl dX5_copyFrom_13 ew2 ?_
  refine j_aload_n X 0 dX5_copyFrom_16 rfl rfl ?_
  refine j_aload_n X 1 dX5_copyFrom_17 rfl rfl ?_
  refine j_get (ref := "ProxyVersions$State") (index := 18) (v := .int (w2 (59 * z1 + 50) 2)) X (oSt hz1) inX5_copyFrom_X5 rfl 2 (by decide) (List.mem_of_getElem? (i := 3) rfl) rfl rfl dX5_copyFrom_18 ?_
  obtain ⟨w3, ew3, hf⟩ := f_lt hf
  refine j_put (ref := "ProxyVersions$State") (index := 18)  X (oSt hz0) inX5_copyFrom_X5 tyX5_ok nmX5 rfl 2 (by decide) (List.mem_of_getElem? (i := 3) rfl) rfl rfl rfl (Nat.le_of_ble_eq_true rfl) rfl dX5_copyFrom_21 ew3 ?_
  refine j_aload_n X 0 dX5_copyFrom_24 rfl rfl ?_
  refine j_aload_n X 1 dX5_copyFrom_25 rfl rfl ?_
  refine j_get (ref := "ProxyVersions$State") (index := 56) (v := .int (w3 (59 * z1 + 50) 3)) X (oSt hz1) inX5_copyFrom_X5 rfl 3 (by decide) (List.mem_of_getElem? (i := 4) rfl) rfl rfl dX5_copyFrom_26 ?_
  obtain ⟨w4, ew4, hf⟩ := f_lt hf
  refine j_put (ref := "ProxyVersions$State") (index := 56)  X (oSt hz0) inX5_copyFrom_X5 tyX5_ok nmX5 rfl 3 (by decide) (List.mem_of_getElem? (i := 4) rfl) rfl rfl rfl (Nat.le_of_ble_eq_true rfl) rfl dX5_copyFrom_29 ew4 ?_
  refine j_aload_n X 0 dX5_copyFrom_32 rfl rfl ?_
  refine j_aload_n X 1 dX5_copyFrom_33 rfl rfl ?_
  refine j_get (ref := "ProxyVersions$State") (index := 59) (v := .int (w4 (59 * z1 + 50) 4)) X (oSt hz1) inX5_copyFrom_X5 rfl 4 (by decide) (List.mem_of_getElem? (i := 5) rfl) rfl rfl dX5_copyFrom_34 ?_
  obtain ⟨w5, ew5, hf⟩ := f_lt hf
  refine j_put (ref := "ProxyVersions$State") (index := 59)  X (oSt hz0) inX5_copyFrom_X5 tyX5_ok nmX5 rfl 4 (by decide) (List.mem_of_getElem? (i := 5) rfl) rfl rfl rfl (Nat.le_of_ble_eq_true rfl) rfl dX5_copyFrom_37 ew5 ?_
  refine j_aload_n X 0 dX5_copyFrom_40 rfl rfl ?_
  refine j_aload_n X 1 dX5_copyFrom_41 rfl rfl ?_
  refine j_get (ref := "ProxyVersions$State") (index := 62) (v := .int (w5 (59 * z1 + 50) 5)) X (oSt hz1) inX5_copyFrom_X5 rfl 5 (by decide) (List.mem_of_getElem? (i := 6) rfl) rfl rfl dX5_copyFrom_42 ?_
  obtain ⟨w6, ew6, hf⟩ := f_lt hf
  refine j_put (ref := "ProxyVersions$State") (index := 62)  X (oSt hz0) inX5_copyFrom_X5 tyX5_ok nmX5 rfl 5 (by decide) (List.mem_of_getElem? (i := 6) rfl) rfl rfl rfl (Nat.le_of_ble_eq_true rfl) rfl dX5_copyFrom_45 ew6 ?_
  refine j_aload_n X 0 dX5_copyFrom_48 rfl rfl ?_
  refine j_aload_n X 1 dX5_copyFrom_49 rfl rfl ?_
  refine j_get (ref := "ProxyVersions$State") (index := 65) (v := .int (w6 (59 * z1 + 50) 6)) X (oSt hz1) inX5_copyFrom_X5 rfl 6 (by decide) (List.mem_of_getElem? (i := 7) rfl) rfl rfl dX5_copyFrom_50 ?_
  obtain ⟨w7, ew7, hf⟩ := f_lt hf
  refine j_put (ref := "ProxyVersions$State") (index := 65)  X (oSt hz0) inX5_copyFrom_X5 tyX5_ok nmX5 rfl 6 (by decide) (List.mem_of_getElem? (i := 7) rfl) rfl rfl rfl (Nat.le_of_ble_eq_true rfl) rfl dX5_copyFrom_53 ew7 ?_
  refine j_aload_n X 1 dX5_copyFrom_56 rfl rfl ?_
  refine j_get (ref := "ProxyVersions$State") (index := 21) (v := .ref (ad (59 * z1 + 51))) X (oSt hz1) inX5_copyFrom_X5 rfl 7 (by decide) (List.mem_of_getElem? (i := 8) rfl) rfl rfl dX5_copyFrom_57 ?_
  refine j_iconst X (v := (nI 0)) (by decide) dX5_copyFrom_60 ?_
  refine j_aload_n X 0 dX5_copyFrom_61 rfl rfl ?_
  refine j_get (ref := "ProxyVersions$State") (index := 21) (v := .ref (ad (59 * z0 + 51))) X (oSt hz0) inX5_copyFrom_X5 rfl 7 (by decide) (List.mem_of_getElem? (i := 8) rfl) rfl rfl dX5_copyFrom_62 ?_
  refine j_iconst X (v := (nI 0)) (by decide) dX5_copyFrom_65 ?_
  refine j_bipush X (v := (nI 8)) (by decide) dX5_copyFrom_66 ?_
  obtain ⟨hi8, hf⟩ := f_c hf
  obtain ⟨w9, ew9, hf⟩ := f_lt hf
  refine j_copy X (List.mem_of_getElem? (i := 9) rfl) (List.mem_of_getElem? (i := 10) rfl) (List.mem_of_getElem? (i := 11) rfl) (List.mem_of_getElem? (i := 12) rfl) 0 rfl (iSt51 hz1) (iSt51 hz0) hi8.1 hi8.2.1 hi8.2.2.1 hi8.2.2.2.1 hi8.2.2.2.2 (Nat.le_of_ble_eq_true rfl) (by decide +kernel) dX5_copyFrom_68 ew9 ?_
  refine j_aload_n X 1 dX5_copyFrom_71 rfl rfl ?_
  refine j_get (ref := "ProxyVersions$State") (index := 25) (v := .ref (ad (59 * z1 + 52))) X (oSt hz1) inX5_copyFrom_X5 rfl 8 (by decide) (List.mem_of_getElem? (i := 13) rfl) rfl rfl dX5_copyFrom_72 ?_
  refine j_iconst X (v := (nI 0)) (by decide) dX5_copyFrom_75 ?_
  refine j_aload_n X 0 dX5_copyFrom_76 rfl rfl ?_
  refine j_get (ref := "ProxyVersions$State") (index := 25) (v := .ref (ad (59 * z0 + 52))) X (oSt hz0) inX5_copyFrom_X5 rfl 8 (by decide) (List.mem_of_getElem? (i := 13) rfl) rfl rfl dX5_copyFrom_77 ?_
  refine j_iconst X (v := (nI 0)) (by decide) dX5_copyFrom_80 ?_
  refine j_iconst X (v := (nI 4)) (by decide) dX5_copyFrom_81 ?_
  obtain ⟨hi10, hf⟩ := f_c hf
  obtain ⟨w11, ew11, hf⟩ := f_lt hf
  refine j_copy X (List.mem_of_getElem? (i := 9) rfl) (List.mem_of_getElem? (i := 10) rfl) (List.mem_of_getElem? (i := 11) rfl) (List.mem_of_getElem? (i := 12) rfl) 0 rfl (iSt52 hz1) (iSt52 hz0) hi10.1 hi10.2.1 hi10.2.2.1 hi10.2.2.2.1 hi10.2.2.2.2 (Nat.le_of_ble_eq_true rfl) (by decide +kernel) dX5_copyFrom_82 ew11 ?_
  refine j_aload_n X 1 dX5_copyFrom_85 rfl rfl ?_
  refine j_get (ref := "ProxyVersions$State") (index := 28) (v := .ref (ad (59 * z1 + 53))) X (oSt hz1) inX5_copyFrom_X5 rfl 9 (by decide) (List.mem_of_getElem? (i := 14) rfl) rfl rfl dX5_copyFrom_86 ?_
  refine j_iconst X (v := (nI 0)) (by decide) dX5_copyFrom_89 ?_
  refine j_aload_n X 0 dX5_copyFrom_90 rfl rfl ?_
  refine j_get (ref := "ProxyVersions$State") (index := 28) (v := .ref (ad (59 * z0 + 53))) X (oSt hz0) inX5_copyFrom_X5 rfl 9 (by decide) (List.mem_of_getElem? (i := 14) rfl) rfl rfl dX5_copyFrom_91 ?_
  refine j_iconst X (v := (nI 0)) (by decide) dX5_copyFrom_94 ?_
  refine j_iconst X (v := (nI 4)) (by decide) dX5_copyFrom_95 ?_
  obtain ⟨hi12, hf⟩ := f_c hf
  obtain ⟨w13, ew13, hf⟩ := f_lt hf
  refine j_copy X (List.mem_of_getElem? (i := 9) rfl) (List.mem_of_getElem? (i := 10) rfl) (List.mem_of_getElem? (i := 11) rfl) (List.mem_of_getElem? (i := 12) rfl) 0 rfl (iSt53 hz1) (iSt53 hz0) hi12.1 hi12.2.1 hi12.2.2.1 hi12.2.2.2.1 hi12.2.2.2.2 (Nat.le_of_ble_eq_true rfl) (by decide +kernel) dX5_copyFrom_96 ew13 ?_
  refine j_aload_n X 1 dX5_copyFrom_99 rfl rfl ?_
  refine j_get (ref := "ProxyVersions$State") (index := 31) (v := .ref (ad (59 * z1 + 54))) X (oSt hz1) inX5_copyFrom_X5 rfl 10 (by decide) (List.mem_of_getElem? (i := 15) rfl) rfl rfl dX5_copyFrom_100 ?_
  refine j_iconst X (v := (nI 0)) (by decide) dX5_copyFrom_103 ?_
  refine j_aload_n X 0 dX5_copyFrom_104 rfl rfl ?_
  refine j_get (ref := "ProxyVersions$State") (index := 31) (v := .ref (ad (59 * z0 + 54))) X (oSt hz0) inX5_copyFrom_X5 rfl 10 (by decide) (List.mem_of_getElem? (i := 15) rfl) rfl rfl dX5_copyFrom_105 ?_
  refine j_iconst X (v := (nI 0)) (by decide) dX5_copyFrom_108 ?_
  refine j_bipush X (v := (nI 32)) (by decide) dX5_copyFrom_109 ?_
  obtain ⟨hi14, hf⟩ := f_c hf
  obtain ⟨w15, ew15, hf⟩ := f_lt hf
  refine j_copy X (List.mem_of_getElem? (i := 9) rfl) (List.mem_of_getElem? (i := 10) rfl) (List.mem_of_getElem? (i := 11) rfl) (List.mem_of_getElem? (i := 12) rfl) 0 rfl (iSt54 hz1) (iSt54 hz0) hi14.1 hi14.2.1 hi14.2.2.1 hi14.2.2.2.1 hi14.2.2.2.2 (Nat.le_of_ble_eq_true rfl) (by decide +kernel) dX5_copyFrom_111 ew15 ?_
  refine j_aload_n X 1 dX5_copyFrom_114 rfl rfl ?_
  refine j_get (ref := "ProxyVersions$State") (index := 34) (v := .ref (ad (59 * z1 + 55))) X (oSt hz1) inX5_copyFrom_X5 rfl 11 (by decide) (List.mem_of_getElem? (i := 16) rfl) rfl rfl dX5_copyFrom_115 ?_
  refine j_iconst X (v := (nI 0)) (by decide) dX5_copyFrom_118 ?_
  refine j_aload_n X 0 dX5_copyFrom_119 rfl rfl ?_
  refine j_get (ref := "ProxyVersions$State") (index := 34) (v := .ref (ad (59 * z0 + 55))) X (oSt hz0) inX5_copyFrom_X5 rfl 11 (by decide) (List.mem_of_getElem? (i := 16) rfl) rfl rfl dX5_copyFrom_120 ?_
  refine j_iconst X (v := (nI 0)) (by decide) dX5_copyFrom_123 ?_
  refine j_sipush X (v := (nI 384)) (by decide) dX5_copyFrom_124 ?_
  obtain ⟨hi16, hf⟩ := f_c hf
  obtain ⟨w17, ew17, hf⟩ := f_lt hf
  refine j_copy X (List.mem_of_getElem? (i := 9) rfl) (List.mem_of_getElem? (i := 10) rfl) (List.mem_of_getElem? (i := 11) rfl) (List.mem_of_getElem? (i := 12) rfl) 0 rfl (iSt55 hz1) (iSt55 hz0) hi16.1 hi16.2.1 hi16.2.2.1 hi16.2.2.2.1 hi16.2.2.2.2 (Nat.le_of_ble_eq_true rfl) (by decide +kernel) dX5_copyFrom_127 ew17 ?_
  refine j_iconst X (v := (nI 0)) (by decide) dX5_copyFrom_130 ?_
  refine j_istore_n (lv' := [(0, .ref (ad (59 * z0 + 50))), (1, .ref (ad (59 * z1 + 50))), (2, .int (nI 0))]) X dX5_copyFrom_131 rfl (by decide) rfl ?_
  refine t_X5_copyFrom_L132 X Y hz0 hz1 _ _ _ hf
abbrev rmX1_stage : Room := { frames := 3, cells := 0, slots := 0, locals := 103 }
theorem inX1_stage_X1 : ∀ w ∈ wsX10, w ∈ wsX1_stage := fun _ h => List.mem_cons_of_mem _ (List.mem_append_left _ (List.mem_append_left _ (List.mem_append_right _ h)))
set_option maxRecDepth 100000 in
set_option maxHeartbeats 4000000 in
theorem c_X1_stage (hI : Inj 490 ad) {w : Wd} {out : Wd} (hf : m_X1_stage w = some out) : Met l yX1_stage wsX1_stage rmX1_stage (va_Pc [.ref (ad 477), .ref (ad 50)] (PW D (tC cI cL cS) 490 ad (cellC cI cL cS ad) w)) (QWv D 490 ad (cellC cI cL cS ad) out) 0 0 (AW 490 ad) := by
  refine mk_met (maxL := 2) (ret := none) RX1 hI (by decide) rfl rfl (Nat.le_of_ble_eq_true rfl) rfl rfl (fun p e s m args below meth c X Y => ?_)
  unfold m_X1_stage at hf
  refine j_aload_n X 0 dX1_stage_0 rfl rfl ?_
  refine j_get (ref := "ProxyVersions$History") (index := 13) (v := .ref (ad 478)) X oHi inX1_stage_X1 rfl 0 (by decide) (List.mem_of_getElem? (i := 1) rfl) rfl rfl dX1_stage_1 ?_
  refine j_aload_n X 0 dX1_stage_4 rfl rfl ?_
  refine j_get (ref := "ProxyVersions$History") (index := 22) (v := .int (w 477 1)) X oHi inX1_stage_X1 rfl 1 (by decide) (List.mem_of_getElem? (i := 2) rfl) rfl rfl dX1_stage_5 ?_
  refine j_bipush X (v := (nI 7)) (by decide) dX1_stage_8 ?_
  obtain ⟨o1, ho1, hf⟩ := f_bd hf
  refine j_callSi X [.int (w 477 1), .int (nI 7)] (c_J9_floorMod_7cf53 X.2.2.2.2.2.2.2 ho1) (va_cwS 2 X.2.2.2.2.1 gX1_stage_J9_floorMod_7cf53 rfl rfl rfl (by decide +kernel) ⟨Nat.le_of_ble_eq_true rfl, Nat.le_of_ble_eq_true rfl⟩) rfl rfl (Nat.le_of_ble_eq_true rfl) dX1_stage_10 ?_
  obtain ⟨hi2, hf⟩ := f_c hf
  refine j_aald X 2 rfl qHi hi2 dX1_stage_13 ?_
  refine j_aload_n X 1 dX1_stage_14 rfl rfl ?_
  obtain ⟨o3, ho3, hf⟩ := f_bd hf
  refine j_callVv X (oSt (hz_ib hi2)) rfl rfl [.ref (ad 50)] (c_X5_copyFrom X.2.2.2.2.2.2.2 (hz_ib hi2) h08 ho3) (cwV 1 X.2.2.2.2.1 gX1_stage_X5_copyFrom rfl rfl rfl (by decide +kernel) ⟨Nat.le_of_ble_eq_true rfl, Nat.le_of_ble_eq_true rfl⟩) rfl rfl (Nat.le_of_ble_eq_true rfl) dX1_stage_15 ?_
  exact j_vret X Y (f_s hf) dX1_stage_18
abbrev rmX1_commit : Room := { frames := 1, cells := 0, slots := 0, locals := 60 }
theorem inX1_commit_X1 : ∀ w ∈ wsX10, w ∈ wsX1_commit := fun _ h => List.mem_cons_of_mem _ (List.mem_append_right _ h)
set_option maxRecDepth 100000 in
set_option maxHeartbeats 4000000 in
theorem c_X1_commit (hI : Inj 490 ad) {w : Wd} {out : Wd} (hf : m_X1_commit w = some out) : Met l yX1_commit wsX1_commit rmX1_commit (va_Pc [.ref (ad 477)] (PW D (tC cI cL cS) 490 ad (cellC cI cL cS ad) w)) (QWv D 490 ad (cellC cI cL cS ad) out) 0 0 (AW 490 ad) := by
  refine mk_met (maxL := 1) (ret := none) RX1 hI (by decide) rfl rfl (Nat.le_of_ble_eq_true rfl) rfl rfl (fun p e s m args below meth c X Y => ?_)
  unfold m_X1_commit at hf
  refine j_aload_n X 0 dX1_commit_0 rfl rfl ?_
  refine j_aload_n X 0 dX1_commit_1 rfl rfl ?_
  refine j_get (ref := "ProxyVersions$History") (index := 22) (v := .int (w 477 1)) X oHi inX1_commit_X1 rfl 1 (by decide) (List.mem_of_getElem? (i := 1) rfl) rfl rfl dX1_commit_2 ?_
  refine j_iconst X (v := (nI 1)) (by decide) dX1_commit_5 ?_
  refine j_iadd X dX1_commit_6 ?_
  refine j_bipush X (v := (nI 7)) (by decide) dX1_commit_7 ?_
  obtain ⟨o1, ho1, hf⟩ := f_bd hf
  refine j_callSi X [.int ((w 477 1) + (nI 1)), .int (nI 7)] (c_J9_floorMod_7cf53 X.2.2.2.2.2.2.2 ho1) (va_cwS 2 X.2.2.2.2.1 gX1_commit_J9_floorMod_7cf53 rfl rfl rfl (by decide +kernel) ⟨Nat.le_of_ble_eq_true rfl, Nat.le_of_ble_eq_true rfl⟩) rfl rfl (Nat.le_of_ble_eq_true rfl) dX1_commit_9 ?_
  obtain ⟨w2, ew2, hf⟩ := f_lt hf
  refine j_put (ref := "ProxyVersions$History") (index := 22)  X oHi inX1_commit_X1 tyX1_ok nmX1 rfl 1 (by decide) (List.mem_of_getElem? (i := 1) rfl) rfl rfl rfl (Nat.le_of_ble_eq_true rfl) rfl dX1_commit_12 ew2 ?_
  refine j_aload_n X 0 dX1_commit_15 rfl rfl ?_
  refine j_aload_n X 0 dX1_commit_16 rfl rfl ?_
  refine j_get (ref := "ProxyVersions$History") (index := 18) (v := .int (w2 477 2)) X oHi inX1_commit_X1 rfl 2 (by decide) (List.mem_of_getElem? (i := 2) rfl) rfl rfl dX1_commit_17 ?_
  refine j_iconst X (v := (nI 1)) (by decide) dX1_commit_20 ?_
  refine j_iadd X dX1_commit_21 ?_
  refine j_bipush X (v := (nI 6)) (by decide) dX1_commit_22 ?_
  refine j_mmin X (List.mem_of_getElem? (i := 3) rfl) (List.mem_of_getElem? (i := 4) rfl) (List.mem_of_getElem? (i := 5) rfl) (List.mem_of_getElem? (i := 6) rfl) (Nat.le_of_ble_eq_true rfl) (Nat.le_of_ble_eq_true rfl) dX1_commit_24 ?_
  obtain ⟨w3, ew3, hf⟩ := f_lt hf
  refine j_put (ref := "ProxyVersions$History") (index := 18)  X oHi inX1_commit_X1 tyX1_ok nmX1 rfl 2 (by decide) (List.mem_of_getElem? (i := 2) rfl) rfl rfl rfl (Nat.le_of_ble_eq_true rfl) rfl dX1_commit_27 ew3 ?_
  exact j_vret X Y (f_s hf) dX1_commit_30
abbrev rmX2_length : Room := { frames := 0, cells := 0, slots := 0, locals := 0 }
theorem inX2_length_X2 : ∀ w ∈ wsX20, w ∈ wsX2_length := fun _ h => List.mem_cons_of_mem _ (List.mem_append_right _ h)
set_option maxRecDepth 100000 in
set_option maxHeartbeats 4000000 in
theorem c_X2_length (hI : Inj 490 ad) {q0 : Nat} {w : Wd} {out : Int32} (hq0 : isLn q0) (hf : m_X2_length q0 w = some out) : Met l yX2_length wsX2_length rmX2_length (va_Pc [.ref (ad q0)] (PW D (tC cI cL cS) 490 ad (cellC cI cL cS ad) w)) (QWi D 490 ad (cellC cI cL cS ad) out w) 0 0 (AW 490 ad) := by
  refine mk_met (maxL := 1) (ret := (some .int)) RX2 hI (by decide) rfl rfl (Nat.le_of_ble_eq_true rfl) rfl rfl (fun p e s m args below meth c X Y => ?_)
  unfold m_X2_length at hf
  refine j_aload_n X 0 dX2_length_0 rfl rfl ?_
  refine j_get (ref := "ProxyVersions$Line") (index := 19) (v := .int (w q0 1)) X (oLn hq0) inX2_length_X2 rfl 1 (by decide) (List.mem_of_getElem? (i := 1) rfl) rfl rfl dX2_length_1 ?_
  exact j_iret X Y (f_s hf) rfl dX2_length_4
abbrev rmX2_at : Room := { frames := 0, cells := 0, slots := 0, locals := 0 }
theorem inX2_at_X2 : ∀ w ∈ wsX20, w ∈ wsX2_at := fun _ h => List.mem_cons_of_mem _ (List.mem_append_right _ h)
set_option maxRecDepth 100000 in
set_option maxHeartbeats 4000000 in
theorem c_X2_at (hI : Inj 490 ad) {q0 : Nat} {x1 : Int32} {w : Wd} {out : Int32} (hq0 : isLn q0) (hf : m_X2_at q0 x1 w = some out) : Met l yX2_at wsX2_at rmX2_at (va_Pc [.ref (ad q0), .int x1] (PW D (tC cI cL cS) 490 ad (cellC cI cL cS ad) w)) (QWi D 490 ad (cellC cI cL cS ad) out w) 0 0 (AW 490 ad) := by
  refine mk_met (maxL := 2) (ret := (some .int)) RX2 hI (by decide) rfl rfl (Nat.le_of_ble_eq_true rfl) rfl rfl (fun p e s m args below meth c X Y => ?_)
  unfold m_X2_at at hf
  refine j_iload_n X 1 dX2_at_0 rfl rfl ?_
  refine j_if_lt (tgt := 30) X dX2_at_1 (by decide) (fun c => ?_) (fun c => ?_)
  · replace hf := f_t c hf
    refine j_iconst X (v := (nI 0)) (by decide) dX2_at_30 ?_
    exact j_iret X Y (f_s hf) rfl dX2_at_31
  replace hf := f_f c hf
  refine j_iload_n X 1 dX2_at_4 rfl rfl ?_
  refine j_aload_n X 0 dX2_at_5 rfl rfl ?_
  refine j_get (ref := "ProxyVersions$Line") (index := 19) (v := .int (w q0 1)) X (oLn hq0) inX2_at_X2 rfl 1 (by decide) (List.mem_of_getElem? (i := 1) rfl) rfl rfl dX2_at_6 ?_
  refine j_icmp_ge (tgt := 30) X dX2_at_9 (by decide) (fun c => ?_) (fun c => ?_)
  · replace hf := f_t c hf
    refine j_iconst X (v := (nI 0)) (by decide) dX2_at_30 ?_
    exact j_iret X Y (f_s hf) rfl dX2_at_31
  replace hf := f_f c hf
  refine j_iload_n X 1 dX2_at_12 rfl rfl ?_
  refine j_aload_n X 0 dX2_at_13 rfl rfl ?_
  refine j_get (ref := "ProxyVersions$Line") (index := 13) (v := .ref (ad (q0 + 1))) X (oLn hq0) inX2_at_X2 rfl 0 (by decide) (List.mem_of_getElem? (i := 2) rfl) rfl rfl dX2_at_14 ?_
  refine j_alen X 0 rfl (iLn hq0) dX2_at_17 ?_
  refine j_icmp_ge (tgt := 30) X dX2_at_18 (by decide) (fun c => ?_) (fun c => ?_)
  · replace hf := f_t c hf
    refine j_iconst X (v := (nI 0)) (by decide) dX2_at_30 ?_
    exact j_iret X Y (f_s hf) rfl dX2_at_31
  replace hf := f_f c hf
  refine j_aload_n X 0 dX2_at_21 rfl rfl ?_
  refine j_get (ref := "ProxyVersions$Line") (index := 13) (v := .ref (ad (q0 + 1))) X (oLn hq0) inX2_at_X2 rfl 0 (by decide) (List.mem_of_getElem? (i := 2) rfl) rfl rfl dX2_at_22 ?_
  refine j_iload_n X 1 dX2_at_25 rfl rfl ?_
  obtain ⟨hi1, hf⟩ := f_c hf
  refine j_iald X 0 rfl (iLn hq0) hi1 dX2_at_26 ?_
  refine j_goto (tgt := 31) X dX2_at_27 (by decide) ?_
  exact j_iret X Y (f_s hf) rfl dX2_at_31
end WALK10
