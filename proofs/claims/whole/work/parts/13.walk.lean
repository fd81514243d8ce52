/-! ===== the bytecode does what the model says (printed by wip/whole/tools/gen.py) ===== -/
section WALK13
variable {p : Program} {l : Launch} {e : Env} {s : State} {m : MethodId} {args : Array Value} {below : List Frame} {meth : Method} {c : Code} {D : va_G} {cI cL cS : ClassId} {ad : Nat → Nat}
abbrev rmX4_namesQueue : Room := { frames := 0, cells := 0, slots := 0, locals := 0 }
set_option maxRecDepth 100000 in
set_option maxHeartbeats 4000000 in
theorem t_X4_namesQueue_j24 (X : CX p rmX4_namesQueue s m args c cX4_namesQueue 1 RX4 wsX4_namesQueue D (tC cI cL cS) 490 ad) (Y : RX meth (some .boolean)) {w : Wd} {out : Int32} (hf : m_X4_namesQueue_j24 = some out) : WJ p l e rmX4_namesQueue s m args below meth c (MQ below (QWi D 490 ad (cellC cI cL cS ad) out w) args s 0 0 (AW 490 ad)) 1 D 490 ad (cellC cI cL cS ad) w 24 [] [] := by
  unfold m_X4_namesQueue_j24 at hf
  refine j_iconst X (v := (nI 1)) (by decide) dX4_namesQueue_24 ?_
  refine j_goto (tgt := 29) X dX4_namesQueue_25 (by decide) ?_
  exact j_bret X Y (Eq.trans (by decide : (nI 1) &&& 1 = (nI 1)) (f_s hf)) rfl dX4_namesQueue_29
set_option maxRecDepth 100000 in
set_option maxHeartbeats 4000000 in
theorem c_X4_namesQueue (hI : Inj 490 ad) {x0 : Int32} {w : Wd} {out : Int32} (hf : m_X4_namesQueue x0 = some out) : Met l yX4_namesQueue wsX4_namesQueue rmX4_namesQueue (va_Pc [.int x0] (PW D (tC cI cL cS) 490 ad (cellC cI cL cS ad) w)) (QWi D 490 ad (cellC cI cL cS ad) out w) 0 0 (AW 490 ad) := by
  refine mk_met (maxL := 1) (ret := (some .boolean)) RX4 hI (by decide) rfl rfl (Nat.le_of_ble_eq_true rfl) rfl rfl (fun p e s m args below meth c X Y => ?_)
  unfold m_X4_namesQueue at hf
  refine j_iload_n X 0 dX4_namesQueue_0 rfl rfl ?_
  refine j_bipush X (v := (nI 117)) (by decide) dX4_namesQueue_1 ?_
  refine j_icmp_eq (tgt := 24) X dX4_namesQueue_3 (by decide) (fun c => ?_) (fun c => ?_)
  · replace hf := f_t c hf
    refine j_sub [] rfl ?_
    exact t_X4_namesQueue_j24 X Y hf
  replace hf := f_f c hf
  refine j_iload_n X 0 dX4_namesQueue_6 rfl rfl ?_
  refine j_bipush X (v := (nI 100)) (by decide) dX4_namesQueue_7 ?_
  refine j_icmp_eq (tgt := 24) X dX4_namesQueue_9 (by decide) (fun c => ?_) (fun c => ?_)
  · replace hf := f_t c hf
    refine j_sub [] rfl ?_
    exact t_X4_namesQueue_j24 X Y hf
  replace hf := f_f c hf
  refine j_iload_n X 0 dX4_namesQueue_12 rfl rfl ?_
  refine j_bipush X (v := (nI 120)) (by decide) dX4_namesQueue_13 ?_
  refine j_icmp_eq (tgt := 24) X dX4_namesQueue_15 (by decide) (fun c => ?_) (fun c => ?_)
  · replace hf := f_t c hf
    refine j_sub [] rfl ?_
    exact t_X4_namesQueue_j24 X Y hf
  replace hf := f_f c hf
  refine j_iload_n X 0 dX4_namesQueue_18 rfl rfl ?_
  refine j_bipush X (v := (nI 121)) (by decide) dX4_namesQueue_19 ?_
  refine j_icmp_ne (tgt := 28) X dX4_namesQueue_21 (by decide) (fun c => ?_) (fun c => ?_)
  · replace hf := f_t c hf
    refine j_iconst X (v := (nI 0)) (by decide) dX4_namesQueue_28 ?_
    exact j_bret X Y (Eq.trans (by decide : (nI 0) &&& 1 = (nI 0)) (f_s hf)) rfl dX4_namesQueue_29
  replace hf := f_fn c hf
  refine j_sub [] rfl ?_
  exact t_X4_namesQueue_j24 X Y hf
abbrev rmX4_takeLetter : Room := { frames := 1, cells := 0, slots := 0, locals := 21 }
theorem inX4_takeLetter_X4 : ∀ w ∈ wsX40, w ∈ wsX4_takeLetter := fun _ h => List.mem_cons_of_mem _ (List.mem_append_left _ (List.mem_append_right _ h))
set_option maxRecDepth 100000 in
set_option maxHeartbeats 4000000 in
theorem t_X4_takeLetter_j14 (X : CX p rmX4_takeLetter s m args c cX4_takeLetter 2 RX4 wsX4_takeLetter D (tC cI cL cS) 490 ad) (Y : RX meth (some .boolean)) {x1 : Int32} {w : Wd} {out : Int32 × Wd} (hf : m_X4_takeLetter_j14 x1 w = some out) : WJ p l e rmX4_takeLetter s m args below meth c (MQ below (QWi D 490 ad (cellC cI cL cS ad) out.1 out.2) args s 0 0 (AW 490 ad)) 2 D 490 ad (cellC cI cL cS ad) w 14 [(0, .ref (ad 479)), (1, .int x1)] [] := by
  unfold m_X4_takeLetter_j14 at hf
  refine j_aload_n X 0 dX4_takeLetter_14 rfl rfl ?_
  refine j_get (ref := "ProxyVersions$Script") (index := 14) (v := .ref (ad 484)) X oSc inX4_takeLetter_X4 rfl 0 (by decide) (List.mem_of_getElem? (i := 1) rfl) rfl rfl dX4_takeLetter_15 ?_
  refine j_iload_n X 1 dX4_takeLetter_18 rfl rfl ?_
  obtain ⟨o1, ho1, hf⟩ := f_bd hf
  refine j_callVi X (oLn ln484) rfl rfl [.int x1] (c_X2_append X.2.2.2.2.2.2.2 ln484 ho1) (cwV 1 X.2.2.2.2.1 gX4_takeLetter_X2_append rfl rfl rfl (by decide +kernel) ⟨Nat.le_of_ble_eq_true rfl, Nat.le_of_ble_eq_true rfl⟩) rfl rfl (Nat.le_of_ble_eq_true rfl) dX4_takeLetter_19 ?_
  refine j_if_eq (tgt := 29) X dX4_takeLetter_22 (by decide) (fun c => ?_) (fun c => ?_)
  · replace hf := f_t c hf
    refine j_iconst X (v := (nI 0)) (by decide) dX4_takeLetter_29 ?_
    exact j_bret X Y (Eq.trans (by decide : (nI 0) &&& 1 = (nI 0)) (f_p1 hf)) (f_p2 hf) dX4_takeLetter_30
  replace hf := f_f c hf
  refine j_iconst X (v := (nI 1)) (by decide) dX4_takeLetter_25 ?_
  refine j_goto (tgt := 30) X dX4_takeLetter_26 (by decide) ?_
  exact j_bret X Y (Eq.trans (by decide : (nI 1) &&& 1 = (nI 1)) (f_p1 hf)) (f_p2 hf) dX4_takeLetter_30
set_option maxRecDepth 100000 in
set_option maxHeartbeats 4000000 in
theorem c_X4_takeLetter (hI : Inj 490 ad) {x1 : Int32} {w : Wd} {out : Int32 × Wd} (hf : m_X4_takeLetter x1 w = some out) : Met l yX4_takeLetter wsX4_takeLetter rmX4_takeLetter (va_Pc [.ref (ad 479), .int x1] (PW D (tC cI cL cS) 490 ad (cellC cI cL cS ad) w)) (QWi D 490 ad (cellC cI cL cS ad) out.1 out.2) 0 0 (AW 490 ad) := by
  refine mk_met (maxL := 2) (ret := (some .boolean)) RX4 hI (by decide) rfl rfl (Nat.le_of_ble_eq_true rfl) rfl rfl (fun p e s m args below meth c X Y => ?_)
  unfold m_X4_takeLetter at hf
  refine j_iload_n X 1 dX4_takeLetter_0 rfl rfl ?_
  obtain ⟨o1, ho1, hf⟩ := f_bd hf
  refine j_callSi X [.int x1] (c_X4_standsAlone X.2.2.2.2.2.2.2 ho1) (va_cwS 1 X.2.2.2.2.1 gX4_takeLetter_X4_standsAlone rfl rfl rfl (by decide +kernel) ⟨Nat.le_of_ble_eq_true rfl, Nat.le_of_ble_eq_true rfl⟩) rfl rfl (Nat.le_of_ble_eq_true rfl) dX4_takeLetter_1 ?_
  refine j_if_ne (tgt := 14) X dX4_takeLetter_4 (by decide) (fun c => ?_) (fun c => ?_)
  · replace hf := f_t c hf
    exact t_X4_takeLetter_j14 X Y hf
  replace hf := f_fn c hf
  refine j_iload_n X 1 dX4_takeLetter_7 rfl rfl ?_
  obtain ⟨o2, ho2, hf⟩ := f_bd hf
  refine j_callSi X [.int x1] (c_X4_namesQueue X.2.2.2.2.2.2.2 ho2) (va_cwS 1 X.2.2.2.2.1 gX4_takeLetter_X4_namesQueue rfl rfl rfl (by decide +kernel) ⟨Nat.le_of_ble_eq_true rfl, Nat.le_of_ble_eq_true rfl⟩) rfl rfl (Nat.le_of_ble_eq_true rfl) dX4_takeLetter_8 ?_
  refine j_if_eq (tgt := 29) X dX4_takeLetter_11 (by decide) (fun c => ?_) (fun c => ?_)
  · replace hf := f_t c hf
    refine j_iconst X (v := (nI 0)) (by decide) dX4_takeLetter_29 ?_
    exact j_bret X Y (Eq.trans (by decide : (nI 0) &&& 1 = (nI 0)) (f_p1 hf)) (f_p2 hf) dX4_takeLetter_30
  replace hf := f_f c hf
  exact t_X4_takeLetter_j14 X Y hf
abbrev rmX4_takeNumber : Room := { frames := 1, cells := 0, slots := 0, locals := 21 }
theorem inX4_takeNumber_X4 : ∀ w ∈ wsX40, w ∈ wsX4_takeNumber := fun _ h => List.mem_cons_of_mem _ (List.mem_append_left _ (List.mem_append_right _ h))
set_option maxRecDepth 100000 in
set_option maxHeartbeats 4000000 in
theorem t_X4_takeNumber_j74 (X : CX p rmX4_takeNumber s m args c cX4_takeNumber 6 RX4 wsX4_takeNumber D (tC cI cL cS) 490 ad) (Y : RX meth (some .boolean)) {x1 : Int32} {w : Wd} {out : Int32 × Wd} (hf : m_X4_takeNumber_j74 x1 w = some out) : WJ p l e rmX4_takeNumber s m args below meth c (MQ below (QWi D 490 ad (cellC cI cL cS ad) out.1 out.2) args s 0 0 (AW 490 ad)) 6 D 490 ad (cellC cI cL cS ad) w 74 [(0, .ref (ad 479)), (1, .int x1)] [] := by
  unfold m_X4_takeNumber_j74 at hf
  refine j_aload_n X 0 dX4_takeNumber_74 rfl rfl ?_
  refine j_get (ref := "ProxyVersions$Script") (index := 20) (v := .ref (ad 486)) X oSc inX4_takeNumber_X4 rfl 1 (by decide) (List.mem_of_getElem? (i := 3) rfl) rfl rfl dX4_takeNumber_75 ?_
  refine j_iload_n X 1 dX4_takeNumber_78 rfl rfl ?_
  obtain ⟨o1, ho1, hf⟩ := f_bd hf
  refine j_callVi X (oLn ln486) rfl rfl [.int x1] (c_X2_append X.2.2.2.2.2.2.2 ln486 ho1) (cwV 1 X.2.2.2.2.1 gX4_takeNumber_X2_append rfl rfl rfl (by decide +kernel) ⟨Nat.le_of_ble_eq_true rfl, Nat.le_of_ble_eq_true rfl⟩) rfl rfl (Nat.le_of_ble_eq_true rfl) dX4_takeNumber_79 ?_
  exact j_bret X Y (f_p1 hf) (f_p2 hf) dX4_takeNumber_82
set_option maxRecDepth 100000 in
set_option maxHeartbeats 4000000 in
theorem t_X4_takeNumber_j42 (X : CX p rmX4_takeNumber s m args c cX4_takeNumber 6 RX4 wsX4_takeNumber D (tC cI cL cS) 490 ad) (Y : RX meth (some .boolean)) {x1 : Int32} {x3 : Int32} {x4 : Int32} {s0 : Int32} {w : Wd} {out : Int32 × Wd} (hf : m_X4_takeNumber_j42 x1 x3 x4 s0 w = some out) : WJ p l e rmX4_takeNumber s m args below meth c (MQ below (QWi D 490 ad (cellC cI cL cS ad) out.1 out.2) args s 0 0 (AW 490 ad)) 6 D 490 ad (cellC cI cL cS ad) w 42 [(0, .ref (ad 479)), (1, .int x1), (3, .int x3), (4, .int x4)] [.int s0] := by
  unfold m_X4_takeNumber_j42 at hf
  refine j_istore (lv' := [(0, .ref (ad 479)), (1, .int x1), (3, .int x3), (4, .int x4), (5, .int s0)]) X dX4_takeNumber_42 (by decide) rfl ?_
  refine j_iload_n X 1 dX4_takeNumber_44 rfl rfl ?_
  refine j_iload X 3 dX4_takeNumber_45 rfl ?_
  refine j_icmp_lt (tgt := 56) X dX4_takeNumber_47 (by decide) (fun c => ?_) (fun c => ?_)
  · replace hf := f_t c hf
    refine j_iconst X (v := (nI 0)) (by decide) dX4_takeNumber_56 ?_
    exact j_bret X Y (Eq.trans (by decide : (nI 0) &&& 1 = (nI 0)) (f_p1 hf)) (f_p2 hf) dX4_takeNumber_57
  replace hf := f_f c hf
  refine j_iload_n X 1 dX4_takeNumber_50 rfl rfl ?_
  refine j_iload X 4 dX4_takeNumber_51 rfl ?_
  refine j_icmp_lt (tgt := 58) X dX4_takeNumber_53 (by decide) (fun c => ?_) (fun c => ?_)
  · replace hf := f_t c hf
    refine j_iload_n X 2 dX4_takeNumber_58 rfl rfl ?_
    obtain ⟨o1, ho1, hf⟩ := f_bd hf
    refine j_callSi X [.int x3] (c_X4_standsAlone X.2.2.2.2.2.2.2 ho1) (va_cwS 1 X.2.2.2.2.1 gX4_takeNumber_X4_standsAlone rfl rfl rfl (by decide +kernel) ⟨Nat.le_of_ble_eq_true rfl, Nat.le_of_ble_eq_true rfl⟩) rfl rfl (Nat.le_of_ble_eq_true rfl) dX4_takeNumber_59 ?_
    refine j_if_eq (tgt := 74) X dX4_takeNumber_62 (by decide) (fun c => ?_) (fun c => ?_)
    · replace hf := f_t c hf
      refine j_sub [0, 1] rfl ?_
      exact t_X4_takeNumber_j74 X Y hf
    replace hf := f_f c hf
    refine j_aload_n X 0 dX4_takeNumber_65 rfl rfl ?_
    refine j_get (ref := "ProxyVersions$Script") (index := 23) (v := .ref (ad 488)) X oSc inX4_takeNumber_X4 rfl 2 (by decide) (List.mem_of_getElem? (i := 2) rfl) rfl rfl dX4_takeNumber_66 ?_
    refine j_iconst X (v := (nI 0)) (by decide) dX4_takeNumber_69 ?_
    obtain ⟨o2, ho2, hf⟩ := f_bd hf
    refine j_callVi X (oLn ln488) rfl rfl [.int (nI 0)] (c_X2_append X.2.2.2.2.2.2.2 ln488 ho2) (cwV 1 X.2.2.2.2.1 gX4_takeNumber_X2_append rfl rfl rfl (by decide +kernel) ⟨Nat.le_of_ble_eq_true rfl, Nat.le_of_ble_eq_true rfl⟩) rfl rfl (Nat.le_of_ble_eq_true rfl) dX4_takeNumber_70 ?_
    refine j_pop X rfl dX4_takeNumber_73 ?_
    refine j_sub [0, 1] rfl ?_
    exact t_X4_takeNumber_j74 X Y hf
  replace hf := f_f c hf
  refine j_iconst X (v := (nI 0)) (by decide) dX4_takeNumber_56 ?_
  exact j_bret X Y (Eq.trans (by decide : (nI 0) &&& 1 = (nI 0)) (f_p1 hf)) (f_p2 hf) dX4_takeNumber_57
set_option maxRecDepth 100000 in
set_option maxHeartbeats 4000000 in
theorem t_X4_takeNumber_j29 (X : CX p rmX4_takeNumber s m args c cX4_takeNumber 6 RX4 wsX4_takeNumber D (tC cI cL cS) 490 ad) (Y : RX meth (some .boolean)) {x1 : Int32} {x2 : Int32} {x3 : Int32} {s0 : Int32} {w : Wd} {out : Int32 × Wd} (hf : m_X4_takeNumber_j29 x1 x2 x3 s0 w = some out) : WJ p l e rmX4_takeNumber s m args below meth c (MQ below (QWi D 490 ad (cellC cI cL cS ad) out.1 out.2) args s 0 0 (AW 490 ad)) 6 D 490 ad (cellC cI cL cS ad) w 29 [(0, .ref (ad 479)), (1, .int x1), (2, .int x2), (3, .int x3)] [.int s0] := by
  unfold m_X4_takeNumber_j29 at hf
  refine j_istore (lv' := [(0, .ref (ad 479)), (1, .int x1), (2, .int x2), (3, .int x3), (4, .int s0)]) X dX4_takeNumber_29 (by decide) rfl ?_
  refine j_iload_n X 3 dX4_takeNumber_31 rfl rfl ?_
  refine j_bipush X (v := (nI 119)) (by decide) dX4_takeNumber_32 ?_
  refine j_icmp_ne (tgt := 41) X dX4_takeNumber_34 (by decide) (fun c => ?_) (fun c => ?_)
  · replace hf := f_t c hf
    refine j_iload_n X 2 dX4_takeNumber_41 rfl rfl ?_
    refine j_sub [0, 1, 3, 4] rfl ?_
    exact t_X4_takeNumber_j42 X Y hf
  replace hf := f_fn c hf
  refine j_iconst X (v := (nI 4)) (by decide) dX4_takeNumber_37 ?_
  refine j_goto (tgt := 42) X dX4_takeNumber_38 (by decide) ?_
  refine j_sub [0, 1, 3, 4] rfl ?_
  exact t_X4_takeNumber_j42 X Y hf
set_option maxRecDepth 100000 in
set_option maxHeartbeats 4000000 in
theorem c_X4_takeNumber (hI : Inj 490 ad) {x1 : Int32} {x2 : Int32} {w : Wd} {out : Int32 × Wd} (hf : m_X4_takeNumber x1 x2 w = some out) : Met l yX4_takeNumber wsX4_takeNumber rmX4_takeNumber (va_Pc [.ref (ad 479), .int x1, .int x2] (PW D (tC cI cL cS) 490 ad (cellC cI cL cS ad) w)) (QWi D 490 ad (cellC cI cL cS ad) out.1 out.2) 0 0 (AW 490 ad) := by
  refine mk_met (maxL := 6) (ret := (some .boolean)) RX4 hI (by decide) rfl rfl (Nat.le_of_ble_eq_true rfl) rfl rfl (fun p e s m args below meth c X Y => ?_)
  unfold m_X4_takeNumber at hf
  refine j_aload_n X 0 dX4_takeNumber_0 rfl rfl ?_
  refine j_get (ref := "ProxyVersions$Script") (index := 14) (v := .ref (ad 484)) X oSc inX4_takeNumber_X4 rfl 0 (by decide) (List.mem_of_getElem? (i := 1) rfl) rfl rfl dX4_takeNumber_1 ?_
  refine j_aload_n X 0 dX4_takeNumber_4 rfl rfl ?_
  refine j_get (ref := "ProxyVersions$Script") (index := 14) (v := .ref (ad 484)) X oSc inX4_takeNumber_X4 rfl 0 (by decide) (List.mem_of_getElem? (i := 1) rfl) rfl rfl dX4_takeNumber_5 ?_
  obtain ⟨o1, ho1, hf⟩ := f_bd hf
  refine j_callVi X (oLn ln484) rfl rfl [] (c_X2_length X.2.2.2.2.2.2.2 ln484 ho1) (cwV 0 X.2.2.2.2.1 gX4_takeNumber_X2_length rfl rfl rfl (by decide +kernel) ⟨Nat.le_of_ble_eq_true rfl, Nat.le_of_ble_eq_true rfl⟩) rfl rfl (Nat.le_of_ble_eq_true rfl) dX4_takeNumber_8 ?_
  refine j_iconst X (v := (nI 1)) (by decide) dX4_takeNumber_11 ?_
  refine j_isub X dX4_takeNumber_12 ?_
  obtain ⟨o2, ho2, hf⟩ := f_bd hf
  refine j_callVi X (oLn ln484) rfl rfl [.int (o1 - (nI 1))] (c_X2_at X.2.2.2.2.2.2.2 ln484 ho2) (cwV 1 X.2.2.2.2.1 gX4_takeNumber_X2_at rfl rfl rfl (by decide +kernel) ⟨Nat.le_of_ble_eq_true rfl, Nat.le_of_ble_eq_true rfl⟩) rfl rfl (Nat.le_of_ble_eq_true rfl) dX4_takeNumber_13 ?_
  refine j_istore_n (lv' := [(0, .ref (ad 479)), (1, .int x1), (2, .int x2), (3, .int o2)]) X dX4_takeNumber_16 rfl (by decide) rfl ?_
  refine j_iload_n X 3 dX4_takeNumber_17 rfl rfl ?_
  obtain ⟨o3, ho3, hf⟩ := f_bd hf
  refine j_callSi X [.int o2] (c_X4_namesQueue X.2.2.2.2.2.2.2 ho3) (va_cwS 1 X.2.2.2.2.1 gX4_takeNumber_X4_namesQueue rfl rfl rfl (by decide +kernel) ⟨Nat.le_of_ble_eq_true rfl, Nat.le_of_ble_eq_true rfl⟩) rfl rfl (Nat.le_of_ble_eq_true rfl) dX4_takeNumber_18 ?_
  refine j_if_eq (tgt := 28) X dX4_takeNumber_21 (by decide) (fun c => ?_) (fun c => ?_)
  · replace hf := f_t c hf
    refine j_iconst X (v := (nI 0)) (by decide) dX4_takeNumber_28 ?_
    exact t_X4_takeNumber_j29 X Y hf
  replace hf := f_f c hf
  refine j_iconst X (v := (nI 1)) (by decide) dX4_takeNumber_24 ?_
  refine j_goto (tgt := 29) X dX4_takeNumber_25 (by decide) ?_
  exact t_X4_takeNumber_j29 X Y hf
abbrev rmX4_takeCount : Room := { frames := 1, cells := 0, slots := 0, locals := 21 }
theorem inX4_takeCount_X4 : ∀ w ∈ wsX40, w ∈ wsX4_takeCount := fun _ h => List.mem_cons_of_mem _ (List.mem_append_left _ (List.mem_append_right _ h))
set_option maxRecDepth 100000 in
set_option maxHeartbeats 4000000 in
theorem c_X4_takeCount (hI : Inj 490 ad) {x1 : Int32} {w : Wd} {out : Int32 × Wd} (hf : m_X4_takeCount x1 w = some out) : Met l yX4_takeCount wsX4_takeCount rmX4_takeCount (va_Pc [.ref (ad 479), .int x1] (PW D (tC cI cL cS) 490 ad (cellC cI cL cS ad) w)) (QWi D 490 ad (cellC cI cL cS ad) out.1 out.2) 0 0 (AW 490 ad) := by
  refine mk_met (maxL := 2) (ret := (some .boolean)) RX4 hI (by decide) rfl rfl (Nat.le_of_ble_eq_true rfl) rfl rfl (fun p e s m args below meth c X Y => ?_)
  unfold m_X4_takeCount at hf
  refine j_iload_n X 1 dX4_takeCount_0 rfl rfl ?_
  refine j_iconst X (v := (nI 1)) (by decide) dX4_takeCount_1 ?_
  refine j_icmp_lt (tgt := 26) X dX4_takeCount_2 (by decide) (fun c => ?_) (fun c => ?_)
  · replace hf := f_t c hf
    refine j_iconst X (v := (nI 0)) (by decide) dX4_takeCount_26 ?_
    exact j_bret X Y (Eq.trans (by decide : (nI 0) &&& 1 = (nI 0)) (f_p1 hf)) (f_p2 hf) dX4_takeCount_27
  replace hf := f_f c hf
  refine j_iload_n X 1 dX4_takeCount_5 rfl rfl ?_
  refine j_bipush X (v := (nI 9)) (by decide) dX4_takeCount_6 ?_
  refine j_icmp_gt (tgt := 26) X dX4_takeCount_8 (by decide) (fun c => ?_) (fun c => ?_)
  · replace hf := f_t c hf
    refine j_iconst X (v := (nI 0)) (by decide) dX4_takeCount_26 ?_
    exact j_bret X Y (Eq.trans (by decide : (nI 0) &&& 1 = (nI 0)) (f_p1 hf)) (f_p2 hf) dX4_takeCount_27
  replace hf := f_f c hf
  refine j_aload_n X 0 dX4_takeCount_11 rfl rfl ?_
  refine j_get (ref := "ProxyVersions$Script") (index := 23) (v := .ref (ad 488)) X oSc inX4_takeCount_X4 rfl 2 (by decide) (List.mem_of_getElem? (i := 1) rfl) rfl rfl dX4_takeCount_12 ?_
  refine j_iload_n X 1 dX4_takeCount_15 rfl rfl ?_
  obtain ⟨o1, ho1, hf⟩ := f_bd hf
  refine j_callVi X (oLn ln488) rfl rfl [.int x1] (c_X2_append X.2.2.2.2.2.2.2 ln488 ho1) (cwV 1 X.2.2.2.2.1 gX4_takeCount_X2_append rfl rfl rfl (by decide +kernel) ⟨Nat.le_of_ble_eq_true rfl, Nat.le_of_ble_eq_true rfl⟩) rfl rfl (Nat.le_of_ble_eq_true rfl) dX4_takeCount_16 ?_
  refine j_if_eq (tgt := 26) X dX4_takeCount_19 (by decide) (fun c => ?_) (fun c => ?_)
  · replace hf := f_t c hf
    refine j_iconst X (v := (nI 0)) (by decide) dX4_takeCount_26 ?_
    exact j_bret X Y (Eq.trans (by decide : (nI 0) &&& 1 = (nI 0)) (f_p1 hf)) (f_p2 hf) dX4_takeCount_27
  replace hf := f_f c hf
  refine j_iconst X (v := (nI 1)) (by decide) dX4_takeCount_22 ?_
  refine j_goto (tgt := 27) X dX4_takeCount_23 (by decide) ?_
  exact j_bret X Y (Eq.trans (by decide : (nI 1) &&& 1 = (nI 1)) (f_p1 hf)) (f_p2 hf) dX4_takeCount_27
abbrev rmX4_takeSign : Room := { frames := 2, cells := 0, slots := 0, locals := 46 }
theorem inX4_takeSign_X4 : ∀ w ∈ wsX40, w ∈ wsX4_takeSign := fun _ h => List.mem_cons_of_mem _ (List.mem_append_left _ (List.mem_append_right _ h))
set_option maxRecDepth 100000 in
set_option maxHeartbeats 4000000 in
theorem c_X4_takeSign (hI : Inj 490 ad) {x1 : Int32} {x2 : Int32} {w : Wd} {out : Int32 × Wd} (hf : m_X4_takeSign x1 x2 w = some out) : Met l yX4_takeSign wsX4_takeSign rmX4_takeSign (va_Pc [.ref (ad 479), .int x1, .int x2] (PW D (tC cI cL cS) 490 ad (cellC cI cL cS ad) w)) (QWi D 490 ad (cellC cI cL cS ad) out.1 out.2) 0 0 (AW 490 ad) := by
  refine mk_met (maxL := 3) (ret := (some .boolean)) RX4 hI (by decide) rfl rfl (Nat.le_of_ble_eq_true rfl) rfl rfl (fun p e s m args below meth c X Y => ?_)
  unfold m_X4_takeSign at hf
  refine j_aload_n X 0 dX4_takeSign_0 rfl rfl ?_
  refine j_get (ref := "ProxyVersions$Script") (index := 23) (v := .ref (ad 488)) X oSc inX4_takeSign_X4 rfl 2 (by decide) (List.mem_of_getElem? (i := 1) rfl) rfl rfl dX4_takeSign_1 ?_
  obtain ⟨o1, ho1, hf⟩ := f_bd hf
  refine j_callVi X (oLn ln488) rfl rfl [] (c_X2_length X.2.2.2.2.2.2.2 ln488 ho1) (cwV 0 X.2.2.2.2.1 gX4_takeSign_X2_length rfl rfl rfl (by decide +kernel) ⟨Nat.le_of_ble_eq_true rfl, Nat.le_of_ble_eq_true rfl⟩) rfl rfl (Nat.le_of_ble_eq_true rfl) dX4_takeSign_4 ?_
  refine j_aload_n X 0 dX4_takeSign_7 rfl rfl ?_
  refine j_get (ref := "ProxyVersions$Script") (index := 14) (v := .ref (ad 484)) X oSc inX4_takeSign_X4 rfl 0 (by decide) (List.mem_of_getElem? (i := 2) rfl) rfl rfl dX4_takeSign_8 ?_
  obtain ⟨o2, ho2, hf⟩ := f_bd hf
  refine j_callVi X (oLn ln484) rfl rfl [] (c_X2_length X.2.2.2.2.2.2.2 ln484 ho2) (cwV 0 X.2.2.2.2.1 gX4_takeSign_X2_length rfl rfl rfl (by decide +kernel) ⟨Nat.le_of_ble_eq_true rfl, Nat.le_of_ble_eq_true rfl⟩) rfl rfl (Nat.le_of_ble_eq_true rfl) dX4_takeSign_11 ?_
  refine j_icmp_ne (tgt := 23) X dX4_takeSign_14 (by decide) (fun c => ?_) (fun c => ?_)
  · replace hf := f_t c hf
    refine j_aload_n X 0 dX4_takeSign_23 rfl rfl ?_
    refine j_get (ref := "ProxyVersions$Script") (index := 20) (v := .ref (ad 486)) X oSc inX4_takeSign_X4 rfl 1 (by decide) (List.mem_of_getElem? (i := 3) rfl) rfl rfl dX4_takeSign_24 ?_
    obtain ⟨o3, ho3, hf⟩ := f_bd hf
    refine j_callVi X (oLn ln486) rfl rfl [] (c_X2_length X.2.2.2.2.2.2.2 ln486 ho3) (cwV 0 X.2.2.2.2.1 gX4_takeSign_X2_length rfl rfl rfl (by decide +kernel) ⟨Nat.le_of_ble_eq_true rfl, Nat.le_of_ble_eq_true rfl⟩) rfl rfl (Nat.le_of_ble_eq_true rfl) dX4_takeSign_27 ?_
    refine j_aload_n X 0 dX4_takeSign_30 rfl rfl ?_
    refine j_get (ref := "ProxyVersions$Script") (index := 14) (v := .ref (ad 484)) X oSc inX4_takeSign_X4 rfl 0 (by decide) (List.mem_of_getElem? (i := 2) rfl) rfl rfl dX4_takeSign_31 ?_
    obtain ⟨o4, ho4, hf⟩ := f_bd hf
    refine j_callVi X (oLn ln484) rfl rfl [] (c_X2_length X.2.2.2.2.2.2.2 ln484 ho4) (cwV 0 X.2.2.2.2.1 gX4_takeSign_X2_length rfl rfl rfl (by decide +kernel) ⟨Nat.le_of_ble_eq_true rfl, Nat.le_of_ble_eq_true rfl⟩) rfl rfl (Nat.le_of_ble_eq_true rfl) dX4_takeSign_34 ?_
    refine j_icmp_ge (tgt := 50) X dX4_takeSign_37 (by decide) (fun c => ?_) (fun c => ?_)
    · replace hf := f_t c hf
      refine j_aload_n X 0 dX4_takeSign_50 rfl rfl ?_
      refine j_iload_n X 1 dX4_takeSign_51 rfl rfl ?_
      refine j_bipush X (v := (nI 48)) (by decide) dX4_takeSign_52 ?_
      refine j_isub X dX4_takeSign_54 ?_
      obtain ⟨o5, ho5, hf⟩ := f_bd hf
      refine j_callVi X oSc rfl rfl [.int (x1 - (nI 48))] (c_X4_takeCount X.2.2.2.2.2.2.2 ho5) (cwV 1 X.2.2.2.2.1 gX4_takeSign_X4_takeCount rfl rfl rfl (by decide +kernel) ⟨Nat.le_of_ble_eq_true rfl, Nat.le_of_ble_eq_true rfl⟩) rfl rfl (Nat.le_of_ble_eq_true rfl) dX4_takeSign_55 ?_
      exact j_bret X Y (f_p1 hf) (f_p2 hf) dX4_takeSign_58
    replace hf := f_f c hf
    refine j_aload_n X 0 dX4_takeSign_40 rfl rfl ?_
    refine j_iload_n X 1 dX4_takeSign_41 rfl rfl ?_
    refine j_bipush X (v := (nI 48)) (by decide) dX4_takeSign_42 ?_
    refine j_isub X dX4_takeSign_44 ?_
    refine j_iload_n X 2 dX4_takeSign_45 rfl rfl ?_
    obtain ⟨o6, ho6, hf⟩ := f_bd hf
    refine j_callVi X oSc rfl rfl [.int (x1 - (nI 48)), .int x2] (c_X4_takeNumber X.2.2.2.2.2.2.2 ho6) (cwV 2 X.2.2.2.2.1 gX4_takeSign_X4_takeNumber rfl rfl rfl (by decide +kernel) ⟨Nat.le_of_ble_eq_true rfl, Nat.le_of_ble_eq_true rfl⟩) rfl rfl (Nat.le_of_ble_eq_true rfl) dX4_takeSign_46 ?_
    exact j_bret X Y (f_p1 hf) (f_p2 hf) dX4_takeSign_49
  replace hf := f_fn c hf
  refine j_aload_n X 0 dX4_takeSign_17 rfl rfl ?_
  refine j_iload_n X 1 dX4_takeSign_18 rfl rfl ?_
  obtain ⟨o7, ho7, hf⟩ := f_bd hf
  refine j_callVi X oSc rfl rfl [.int x1] (c_X4_takeLetter X.2.2.2.2.2.2.2 ho7) (cwV 1 X.2.2.2.2.1 gX4_takeSign_X4_takeLetter rfl rfl rfl (by decide +kernel) ⟨Nat.le_of_ble_eq_true rfl, Nat.le_of_ble_eq_true rfl⟩) rfl rfl (Nat.le_of_ble_eq_true rfl) dX4_takeSign_19 ?_
  exact j_bret X Y (f_p1 hf) (f_p2 hf) dX4_takeSign_22
abbrev rmX4_parse : Room := { frames := 3, cells := 0, slots := 0, locals := 68 }
theorem inX4_parse_X4 : ∀ w ∈ wsX40, w ∈ wsX4_parse := fun _ h => List.mem_cons_of_mem _ (List.mem_append_left _ (List.mem_append_right _ h))
set_option maxRecDepth 100000 in
set_option maxHeartbeats 4000000 in
theorem t_X4_parse_j57 (X : CX p rmX4_parse s m args c cX4_parse 5 RX4 wsX4_parse D (tC cI cL cS) 490 ad) (Y : RX meth (some .int)) {q1 : Nat} {x2 : Int32} {x3 : Int32} {w : Wd} {kc : Int32 → Wd → Option (Int32 × Wd)} {kx63 : Wd → Option (Int32 × Wd)} {out : Int32 × Wd} (hq1 : isLn q1) (hf : m_X4_parse_j57 q1 x2 x3 w kc kx63 = some out) (hk_kc : ∀ (y3 : Int32) (v : Wd), kc y3 v = some out → WJ p l e rmX4_parse s m args below meth c (MQ below (QWi D 490 ad (cellC cI cL cS ad) out.1 out.2) args s 0 0 (AW 490 ad)) 5 D 490 ad (cellC cI cL cS ad) v 23 [(0, .ref (ad 479)), (1, .ref (ad q1)), (2, .int x2), (3, .int y3)] []) (hk_kx63 : ∀  (v : Wd), kx63 v = some out → WJ p l e rmX4_parse s m args below meth c (MQ below (QWi D 490 ad (cellC cI cL cS ad) out.1 out.2) args s 0 0 (AW 490 ad)) 5 D 490 ad (cellC cI cL cS ad) v 63 [(0, .ref (ad 479)), (1, .ref (ad q1))] []) : WJ p l e rmX4_parse s m args below meth c (MQ below (QWi D 490 ad (cellC cI cL cS ad) out.1 out.2) args s 0 0 (AW 490 ad)) 5 D 490 ad (cellC cI cL cS ad) w 57 [(0, .ref (ad 479)), (1, .ref (ad q1)), (2, .int x2), (3, .int x3)] [] := by
  unfold m_X4_parse_j57 at hf
  refine j_iinc (v := (x3 + (nI 1))) (lv' := [(0, .ref (ad 479)), (1, .ref (ad q1)), (2, .int x2), (3, .int (x3 + (nI 1)))]) X 3 dX4_parse_57 rfl rfl (by decide) rfl ?_
  refine j_goto (tgt := 23) X dX4_parse_60 (by decide) ?_
  exact hk_kc _ _ hf
set_option maxRecDepth 100000 in
set_option maxHeartbeats 4000000 in
theorem t_X4_parse_L23 (X : CX p rmX4_parse s m args c cX4_parse 5 RX4 wsX4_parse D (tC cI cL cS) 490 ad) (Y : RX meth (some .int)) {q1 : Nat} {x2 : Int32} {kx63 : Wd → Option (Int32 × Wd)} {out : Int32 × Wd} (hq1 : isLn q1) (hk_kx63 : ∀  (v : Wd), kx63 v = some out → WJ p l e rmX4_parse s m args below meth c (MQ below (QWi D 490 ad (cellC cI cL cS ad) out.1 out.2) args s 0 0 (AW 490 ad)) 5 D 490 ad (cellC cI cL cS ad) v 63 [(0, .ref (ad 479)), (1, .ref (ad q1))] []) : ∀ (n : Nat) (x3 : Int32) (w : Wd), m_X4_parse_L23 q1 x2 kx63 n x3 w = some out → WJ p l e rmX4_parse s m args below meth c (MQ below (QWi D 490 ad (cellC cI cL cS ad) out.1 out.2) args s 0 0 (AW 490 ad)) 5 D 490 ad (cellC cI cL cS ad) w 23 [(0, .ref (ad 479)), (1, .ref (ad q1)), (2, .int x2), (3, .int x3)] [] := by
  intro n
  induction n with
  | zero => intro x3 w hf; exact f_n hf
  | succ n ih =>
    intro x3 w hf
    rw [m_X4_parse_L23] at hf
    refine j_iload_n X 3 dX4_parse_23 rfl rfl ?_
    refine j_aload_n X 1 dX4_parse_24 rfl rfl ?_
    obtain ⟨o1, ho1, hf⟩ := f_bd hf
    refine j_callVi X (oLn hq1) rfl rfl [] (c_X2_length X.2.2.2.2.2.2.2 hq1 ho1) (cwV 0 X.2.2.2.2.1 gX4_parse_X2_length rfl rfl rfl (by decide +kernel) ⟨Nat.le_of_ble_eq_true rfl, Nat.le_of_ble_eq_true rfl⟩) rfl rfl (Nat.le_of_ble_eq_true rfl) dX4_parse_25 ?_
    refine j_icmp_ge (tgt := 63) X dX4_parse_28 (by decide) (fun c => ?_) (fun c => ?_)
    · replace hf := f_t c hf
      refine j_sub [0, 1] rfl ?_
      exact hk_kx63 _ hf
    replace hf := f_f c hf
    refine j_aload_n X 1 dX4_parse_31 rfl rfl ?_
    refine j_iload_n X 3 dX4_parse_32 rfl rfl ?_
    obtain ⟨o2, ho2, hf⟩ := f_bd hf
    refine j_callVi X (oLn hq1) rfl rfl [.int x3] (c_X2_at X.2.2.2.2.2.2.2 hq1 ho2) (cwV 1 X.2.2.2.2.1 gX4_parse_X2_at rfl rfl rfl (by decide +kernel) ⟨Nat.le_of_ble_eq_true rfl, Nat.le_of_ble_eq_true rfl⟩) rfl rfl (Nat.le_of_ble_eq_true rfl) dX4_parse_33 ?_
    refine j_istore (lv' := [(0, .ref (ad 479)), (1, .ref (ad q1)), (2, .int x2), (3, .int x3), (4, .int o2)]) X dX4_parse_36 (by decide) rfl ?_
    refine j_iload X 4 dX4_parse_38 rfl ?_
    refine j_bipush X (v := (nI 32)) (by decide) dX4_parse_40 ?_
    refine j_icmp_eq (tgt := 57) X dX4_parse_42 (by decide) (fun c => ?_) (fun c => ?_)
    · replace hf := f_t c hf
      refine j_sub [0, 1, 2, 3] rfl ?_
      exact t_X4_parse_j57 X Y hq1 hf ih hk_kx63
    replace hf := f_f c hf
    refine j_aload_n X 0 dX4_parse_45 rfl rfl ?_
    refine j_iload X 4 dX4_parse_46 rfl ?_
    refine j_iload_n X 2 dX4_parse_48 rfl rfl ?_
    obtain ⟨o3, ho3, hf⟩ := f_bd hf
    refine j_callVi X oSc rfl rfl [.int o2, .int x2] (c_X4_takeSign X.2.2.2.2.2.2.2 ho3) (cwV 2 X.2.2.2.2.1 gX4_parse_X4_takeSign rfl rfl rfl (by decide +kernel) ⟨Nat.le_of_ble_eq_true rfl, Nat.le_of_ble_eq_true rfl⟩) rfl rfl (Nat.le_of_ble_eq_true rfl) dX4_parse_49 ?_
    refine j_if_ne (tgt := 57) X dX4_parse_52 (by decide) (fun c => ?_) (fun c => ?_)
    · replace hf := f_t c hf
      refine j_sub [0, 1, 2, 3] rfl ?_
      exact t_X4_parse_j57 X Y hq1 hf ih hk_kx63
    replace hf := f_fn c hf
    refine j_iload_n X 3 dX4_parse_55 rfl rfl ?_
    exact j_iret X Y (f_p1 hf) (f_p2 hf) dX4_parse_56
set_option maxRecDepth 100000 in
set_option maxHeartbeats 4000000 in
theorem c_X4_parse (hI : Inj 490 ad) {q1 : Nat} {x2 : Int32} {w : Wd} {out : Int32 × Wd} (hq1 : isLn q1) (hf : m_X4_parse q1 x2 w = some out) : Met l yX4_parse wsX4_parse rmX4_parse (va_Pc [.ref (ad 479), .ref (ad q1), .int x2] (PW D (tC cI cL cS) 490 ad (cellC cI cL cS ad) w)) (QWi D 490 ad (cellC cI cL cS ad) out.1 out.2) 0 0 (AW 490 ad) := by
  refine mk_met (maxL := 5) (ret := (some .int)) RX4 hI (by decide) rfl rfl (Nat.le_of_ble_eq_true rfl) rfl rfl (fun p e s m args below meth c X Y => ?_)
  unfold m_X4_parse at hf
  refine j_aload_n X 0 dX4_parse_0 rfl rfl ?_
  refine j_get (ref := "ProxyVersions$Script") (index := 14) (v := .ref (ad 484)) X oSc inX4_parse_X4 rfl 0 (by decide) (List.mem_of_getElem? (i := 1) rfl) rfl rfl dX4_parse_1 ?_
  obtain ⟨o1, ho1, hf⟩ := f_bd hf
  refine j_callVv X (oLn ln484) rfl rfl [] (c_X2_clear X.2.2.2.2.2.2.2 ln484 ho1) (cwV 0 X.2.2.2.2.1 gX4_parse_X2_clear rfl rfl rfl (by decide +kernel) ⟨Nat.le_of_ble_eq_true rfl, Nat.le_of_ble_eq_true rfl⟩) rfl rfl (Nat.le_of_ble_eq_true rfl) dX4_parse_4 ?_
  refine j_aload_n X 0 dX4_parse_7 rfl rfl ?_
  refine j_get (ref := "ProxyVersions$Script") (index := 20) (v := .ref (ad 486)) X oSc inX4_parse_X4 rfl 1 (by decide) (List.mem_of_getElem? (i := 2) rfl) rfl rfl dX4_parse_8 ?_
  obtain ⟨o2, ho2, hf⟩ := f_bd hf
  refine j_callVv X (oLn ln486) rfl rfl [] (c_X2_clear X.2.2.2.2.2.2.2 ln486 ho2) (cwV 0 X.2.2.2.2.1 gX4_parse_X2_clear rfl rfl rfl (by decide +kernel) ⟨Nat.le_of_ble_eq_true rfl, Nat.le_of_ble_eq_true rfl⟩) rfl rfl (Nat.le_of_ble_eq_true rfl) dX4_parse_11 ?_
  refine j_aload_n X 0 dX4_parse_14 rfl rfl ?_
  refine j_get (ref := "ProxyVersions$Script") (index := 23) (v := .ref (ad 488)) X oSc inX4_parse_X4 rfl 2 (by decide) (List.mem_of_getElem? (i := 3) rfl) rfl rfl dX4_parse_15 ?_
  obtain ⟨o3, ho3, hf⟩ := f_bd hf
  refine j_callVv X (oLn ln488) rfl rfl [] (c_X2_clear X.2.2.2.2.2.2.2 ln488 ho3) (cwV 0 X.2.2.2.2.1 gX4_parse_X2_clear rfl rfl rfl (by decide +kernel) ⟨Nat.le_of_ble_eq_true rfl, Nat.le_of_ble_eq_true rfl⟩) rfl rfl (Nat.le_of_ble_eq_true rfl) dX4_parse_18 ?_
  refine j_iconst X (v := (nI 0)) (by decide) dX4_parse_21 ?_
  refine j_istore_n (lv' := [(0, .ref (ad 479)), (1, .ref (ad q1)), (2, .int x2), (3, .int (nI 0))]) X dX4_parse_22 rfl (by decide) rfl ?_
  refine t_X4_parse_L23 X Y hq1 ?_ _ _ _ hf
  intro w4 hf
  refine j_aload_n X 0 dX4_parse_63 rfl rfl ?_
  refine j_get (ref := "ProxyVersions$Script") (index := 23) (v := .ref (ad 488)) X oSc inX4_parse_X4 rfl 2 (by decide) (List.mem_of_getElem? (i := 3) rfl) rfl rfl dX4_parse_64 ?_
  obtain ⟨o5, ho5, hf⟩ := f_bd hf
  refine j_callVi X (oLn ln488) rfl rfl [] (c_X2_length X.2.2.2.2.2.2.2 ln488 ho5) (cwV 0 X.2.2.2.2.1 gX4_parse_X2_length rfl rfl rfl (by decide +kernel) ⟨Nat.le_of_ble_eq_true rfl, Nat.le_of_ble_eq_true rfl⟩) rfl rfl (Nat.le_of_ble_eq_true rfl) dX4_parse_67 ?_
  refine j_aload_n X 0 dX4_parse_70 rfl rfl ?_
  refine j_get (ref := "ProxyVersions$Script") (index := 14) (v := .ref (ad 484)) X oSc inX4_parse_X4 rfl 0 (by decide) (List.mem_of_getElem? (i := 1) rfl) rfl rfl dX4_parse_71 ?_
  obtain ⟨o6, ho6, hf⟩ := f_bd hf
  refine j_callVi X (oLn ln484) rfl rfl [] (c_X2_length X.2.2.2.2.2.2.2 ln484 ho6) (cwV 0 X.2.2.2.2.1 gX4_parse_X2_length rfl rfl rfl (by decide +kernel) ⟨Nat.le_of_ble_eq_true rfl, Nat.le_of_ble_eq_true rfl⟩) rfl rfl (Nat.le_of_ble_eq_true rfl) dX4_parse_74 ?_
  refine j_icmp_ne (tgt := 84) X dX4_parse_77 (by decide) (fun c => ?_) (fun c => ?_)
  · replace hf := f_t c hf
    refine j_aload_n X 1 dX4_parse_84 rfl rfl ?_
    obtain ⟨o7, ho7, hf⟩ := f_bd hf
    refine j_callVi X (oLn hq1) rfl rfl [] (c_X2_length X.2.2.2.2.2.2.2 hq1 ho7) (cwV 0 X.2.2.2.2.1 gX4_parse_X2_length rfl rfl rfl (by decide +kernel) ⟨Nat.le_of_ble_eq_true rfl, Nat.le_of_ble_eq_true rfl⟩) rfl rfl (Nat.le_of_ble_eq_true rfl) dX4_parse_85 ?_
    exact j_iret X Y (f_p1 hf) (f_p2 hf) dX4_parse_88
  replace hf := f_fn c hf
  refine j_iconst X (v := (-1 : Int32)) (by decide) dX4_parse_80 ?_
  refine j_goto (tgt := 88) X dX4_parse_81 (by decide) ?_
  exact j_iret X Y (f_p1 hf) (f_p2 hf) dX4_parse_88
abbrev rmX5_childrenOf : Room := { frames := 2, cells := 0, slots := 0, locals := 43 }
theorem inX5_childrenOf_X5 : ∀ w ∈ wsX50, w ∈ wsX5_childrenOf := fun _ h => List.mem_cons_of_mem _ (List.mem_append_right _ h)
set_option maxRecDepth 100000 in
set_option maxHeartbeats 4000000 in
theorem t_X5_childrenOf_j24 (X : CX p rmX5_childrenOf s m args c cX5_childrenOf 4 RX5 wsX5_childrenOf D (tC cI cL cS) 490 ad) (Y : RX meth (some .int)) {x1 : Int32} {x2 : Int32} {x3 : Int32} {w : Wd} {kc : Int32 → Int32 → Option (Int32)} {out : Int32} (hf : m_X5_childrenOf_j24 x1 x2 x3 w kc = some out) (hk_kc : ∀ (y2 : Int32) (y3 : Int32), kc y2 y3 = some out → WJ p l e rmX5_childrenOf s m args below meth c (MQ below (QWi D 490 ad (cellC cI cL cS ad) out w) args s 0 0 (AW 490 ad)) 4 D 490 ad (cellC cI cL cS ad) w 4 [(0, .ref (ad 50)), (1, .int x1), (2, .int y2), (3, .int y3)] []) : WJ p l e rmX5_childrenOf s m args below meth c (MQ below (QWi D 490 ad (cellC cI cL cS ad) out w) args s 0 0 (AW 490 ad)) 4 D 490 ad (cellC cI cL cS ad) w 24 [(0, .ref (ad 50)), (1, .int x1), (2, .int x2), (3, .int x3)] [] := by
  unfold m_X5_childrenOf_j24 at hf
  refine j_iinc (v := (x3 + (nI 1))) (lv' := [(0, .ref (ad 50)), (1, .int x1), (2, .int x2), (3, .int (x3 + (nI 1)))]) X 3 dX5_childrenOf_24 rfl rfl (by decide) rfl ?_
  refine j_goto (tgt := 4) X dX5_childrenOf_27 (by decide) ?_
  exact hk_kc _ _ hf
set_option maxRecDepth 100000 in
set_option maxHeartbeats 4000000 in
theorem t_X5_childrenOf_L4 (X : CX p rmX5_childrenOf s m args c cX5_childrenOf 4 RX5 wsX5_childrenOf D (tC cI cL cS) 490 ad) (Y : RX meth (some .int)) {x1 : Int32} {w : Wd} {out : Int32} : ∀ (n : Nat) (x2 : Int32) (x3 : Int32), m_X5_childrenOf_L4 x1 w n x2 x3 = some out → WJ p l e rmX5_childrenOf s m args below meth c (MQ below (QWi D 490 ad (cellC cI cL cS ad) out w) args s 0 0 (AW 490 ad)) 4 D 490 ad (cellC cI cL cS ad) w 4 [(0, .ref (ad 50)), (1, .int x1), (2, .int x2), (3, .int x3)] [] := by
  intro n
  induction n with
  | zero => intro x2 x3 hf; exact f_n hf
  | succ n ih =>
    intro x2 x3 hf
    rw [m_X5_childrenOf_L4] at hf
    refine j_iload_n X 3 dX5_childrenOf_4 rfl rfl ?_
    refine j_aload_n X 0 dX5_childrenOf_5 rfl rfl ?_
    refine j_get (ref := "ProxyVersions$State") (index := 9) (v := .int (w 50 0)) X oS0 inX5_childrenOf_X5 rfl 0 (by decide) (List.mem_of_getElem? (i := 1) rfl) rfl rfl dX5_childrenOf_6 ?_
    refine j_icmp_ge (tgt := 30) X dX5_childrenOf_9 (by decide) (fun c => ?_) (fun c => ?_)
    · replace hf := f_t c hf
      refine j_iload_n X 2 dX5_childrenOf_30 rfl rfl ?_
      exact j_iret X Y (f_s hf) rfl dX5_childrenOf_31
    replace hf := f_f c hf
    refine j_aload_n X 0 dX5_childrenOf_12 rfl rfl ?_
    refine j_iload_n X 3 dX5_childrenOf_13 rfl rfl ?_
    refine j_iload_n X 1 dX5_childrenOf_14 rfl rfl ?_
    obtain ⟨o1, ho1, hf⟩ := f_bd hf
    refine j_callVi X oS0 rfl rfl [.int x3, .int x1] (c_X5_isChildOf X.2.2.2.2.2.2.2 ho1) (cwV 2 X.2.2.2.2.1 gX5_childrenOf_X5_isChildOf rfl rfl rfl (by decide +kernel) ⟨Nat.le_of_ble_eq_true rfl, Nat.le_of_ble_eq_true rfl⟩) rfl rfl (Nat.le_of_ble_eq_true rfl) dX5_childrenOf_15 ?_
    refine j_if_eq (tgt := 24) X dX5_childrenOf_18 (by decide) (fun c => ?_) (fun c => ?_)
    · replace hf := f_t c hf
      exact t_X5_childrenOf_j24 X Y hf ih
    replace hf := f_f c hf
    refine j_iinc (v := (x2 + (nI 1))) (lv' := [(0, .ref (ad 50)), (1, .int x1), (2, .int (x2 + (nI 1))), (3, .int x3)]) X 2 dX5_childrenOf_21 rfl rfl (by decide) rfl ?_
    exact t_X5_childrenOf_j24 X Y hf ih
set_option maxRecDepth 100000 in
set_option maxHeartbeats 4000000 in
theorem c_X5_childrenOf (hI : Inj 490 ad) {x1 : Int32} {w : Wd} {out : Int32} (hf : m_X5_childrenOf x1 w = some out) : Met l yX5_childrenOf wsX5_childrenOf rmX5_childrenOf (va_Pc [.ref (ad 50), .int x1] (PW D (tC cI cL cS) 490 ad (cellC cI cL cS ad) w)) (QWi D 490 ad (cellC cI cL cS ad) out w) 0 0 (AW 490 ad) := by
  refine mk_met (maxL := 4) (ret := (some .int)) RX5 hI (by decide) rfl rfl (Nat.le_of_ble_eq_true rfl) rfl rfl (fun p e s m args below meth c X Y => ?_)
  unfold m_X5_childrenOf at hf
  refine j_iconst X (v := (nI 0)) (by decide) dX5_childrenOf_0 ?_
  refine j_istore_n (lv' := [(0, .ref (ad 50)), (1, .int x1), (2, .int (nI 0))]) X dX5_childrenOf_1 rfl (by decide) rfl ?_
  refine j_iconst X (v := (nI 1)) (by decide) dX5_childrenOf_2 ?_
  refine j_istore_n (lv' := [(0, .ref (ad 50)), (1, .int x1), (2, .int (nI 0)), (3, .int (nI 1))]) X dX5_childrenOf_3 rfl (by decide) rfl ?_
  refine t_X5_childrenOf_L4 X Y _ _ _ hf
abbrev rmX5_stepsToRoot : Room := { frames := 1, cells := 0, slots := 0, locals := 21 }
set_option maxRecDepth 100000 in
set_option maxHeartbeats 4000000 in
theorem t_X5_stepsToRoot_L4 (X : CX p rmX5_stepsToRoot s m args c cX5_stepsToRoot 4 RX5 wsX5_stepsToRoot D (tC cI cL cS) 490 ad) (Y : RX meth (some .int)) {w : Wd} {out : Int32} : ∀ (n : Nat) (x2 : Int32) (x3 : Int32), m_X5_stepsToRoot_L4 w n x2 x3 = some out → WJ p l e rmX5_stepsToRoot s m args below meth c (MQ below (QWi D 490 ad (cellC cI cL cS ad) out w) args s 0 0 (AW 490 ad)) 4 D 490 ad (cellC cI cL cS ad) w 4 [(0, .ref (ad 50)), (2, .int x2), (3, .int x3)] [] := by
  intro n
  induction n with
  | zero => intro x2 x3 hf; exact f_n hf
  | succ n ih =>
    intro x2 x3 hf
    rw [m_X5_stepsToRoot_L4] at hf
    refine j_iload_n X 2 dX5_stepsToRoot_4 rfl rfl ?_
    refine j_if_eq (tgt := 26) X dX5_stepsToRoot_5 (by decide) (fun c => ?_) (fun c => ?_)
    · replace hf := f_t c hf
      refine j_iload_n X 1 dX5_stepsToRoot_26 rfl rfl ?_
      exact j_iret X Y (f_s hf) rfl dX5_stepsToRoot_27
    replace hf := f_f c hf
    refine j_iload_n X 1 dX5_stepsToRoot_8 rfl rfl ?_
    refine j_bipush X (v := (nI 8)) (by decide) dX5_stepsToRoot_9 ?_
    refine j_icmp_ge (tgt := 26) X dX5_stepsToRoot_11 (by decide) (fun c => ?_) (fun c => ?_)
    · replace hf := f_t c hf
      refine j_iload_n X 1 dX5_stepsToRoot_26 rfl rfl ?_
      exact j_iret X Y (f_s hf) rfl dX5_stepsToRoot_27
    replace hf := f_f c hf
    refine j_iinc (v := (x2 + (nI 1))) (lv' := [(0, .ref (ad 50)), (2, .int (x2 + (nI 1))), (3, .int x3)]) X 1 dX5_stepsToRoot_14 rfl rfl (by decide) rfl ?_
    refine j_aload_n X 0 dX5_stepsToRoot_17 rfl rfl ?_
    refine j_iload_n X 2 dX5_stepsToRoot_18 rfl rfl ?_
    obtain ⟨o1, ho1, hf⟩ := f_bd hf
    refine j_callVi X oS0 rfl rfl [.int x3] (c_X5_parentOf X.2.2.2.2.2.2.2 ho1) (cwV 1 X.2.2.2.2.1 gX5_stepsToRoot_X5_parentOf rfl rfl rfl (by decide +kernel) ⟨Nat.le_of_ble_eq_true rfl, Nat.le_of_ble_eq_true rfl⟩) rfl rfl (Nat.le_of_ble_eq_true rfl) dX5_stepsToRoot_19 ?_
    refine j_istore_n (lv' := [(0, .ref (ad 50)), (2, .int (x2 + (nI 1))), (3, .int o1)]) X dX5_stepsToRoot_22 rfl (by decide) rfl ?_
    refine j_goto (tgt := 4) X dX5_stepsToRoot_23 (by decide) ?_
    exact ih _ _ hf
set_option maxRecDepth 100000 in
set_option maxHeartbeats 4000000 in
theorem c_X5_stepsToRoot (hI : Inj 490 ad) {x1 : Int32} {w : Wd} {out : Int32} (hf : m_X5_stepsToRoot x1 w = some out) : Met l yX5_stepsToRoot wsX5_stepsToRoot rmX5_stepsToRoot (va_Pc [.ref (ad 50), .int x1] (PW D (tC cI cL cS) 490 ad (cellC cI cL cS ad) w)) (QWi D 490 ad (cellC cI cL cS ad) out w) 0 0 (AW 490 ad) := by
  refine mk_met (maxL := 4) (ret := (some .int)) RX5 hI (by decide) rfl rfl (Nat.le_of_ble_eq_true rfl) rfl rfl (fun p e s m args below meth c X Y => ?_)
  unfold m_X5_stepsToRoot at hf
  refine j_iconst X (v := (nI 0)) (by decide) dX5_stepsToRoot_0 ?_
  refine j_istore_n (lv' := [(0, .ref (ad 50)), (1, .int x1), (2, .int (nI 0))]) X dX5_stepsToRoot_1 rfl (by decide) rfl ?_
  refine j_iload_n X 1 dX5_stepsToRoot_2 rfl rfl ?_
  refine j_istore_n (lv' := [(0, .ref (ad 50)), (1, .int x1), (2, .int (nI 0)), (3, .int x1)]) X dX5_stepsToRoot_3 rfl (by decide) rfl ?_
  refine j_sub [0, 2, 3] rfl ?_
  refine t_X5_stepsToRoot_L4 X Y _ _ _ hf
abbrev rmX5_writtenCount : Room := { frames := 1, cells := 0, slots := 0, locals := 21 }
set_option maxRecDepth 100000 in
set_option maxHeartbeats 4000000 in
theorem t_X5_writtenCount_L4 (X : CX p rmX5_writtenCount s m args c cX5_writtenCount 3 RX5 wsX5_writtenCount D (tC cI cL cS) 490 ad) (Y : RX meth (some .int)) {w : Wd} {out : Int32} : ∀ (n : Nat) (x1 : Int32) (x2 : Int32), m_X5_writtenCount_L4 w n x1 x2 = some out → WJ p l e rmX5_writtenCount s m args below meth c (MQ below (QWi D 490 ad (cellC cI cL cS ad) out w) args s 0 0 (AW 490 ad)) 3 D 490 ad (cellC cI cL cS ad) w 4 [(0, .ref (ad 50)), (1, .int x1), (2, .int x2)] [] := by
  intro n
  induction n with
  | zero => intro x1 x2 hf; exact f_n hf
  | succ n ih =>
    intro x1 x2 hf
    rw [m_X5_writtenCount_L4] at hf
    refine j_iload_n X 2 dX5_writtenCount_4 rfl rfl ?_
    refine j_iconst X (v := (nI 4)) (by decide) dX5_writtenCount_5 ?_
    refine j_icmp_ge (tgt := 23) X dX5_writtenCount_6 (by decide) (fun c => ?_) (fun c => ?_)
    · replace hf := f_t c hf
      refine j_iload_n X 1 dX5_writtenCount_23 rfl rfl ?_
      exact j_iret X Y (f_s hf) rfl dX5_writtenCount_24
    replace hf := f_f c hf
    refine j_iload_n X 1 dX5_writtenCount_9 rfl rfl ?_
    refine j_aload_n X 0 dX5_writtenCount_10 rfl rfl ?_
    refine j_iload_n X 2 dX5_writtenCount_11 rfl rfl ?_
    obtain ⟨o1, ho1, hf⟩ := f_bd hf
    refine j_callVi X oS0 rfl rfl [.int x2] (c_X5_writtenOf X.2.2.2.2.2.2.2 ho1) (cwV 1 X.2.2.2.2.1 gX5_writtenCount_X5_writtenOf rfl rfl rfl (by decide +kernel) ⟨Nat.le_of_ble_eq_true rfl, Nat.le_of_ble_eq_true rfl⟩) rfl rfl (Nat.le_of_ble_eq_true rfl) dX5_writtenCount_12 ?_
    refine j_iadd X dX5_writtenCount_15 ?_
    obtain ⟨x1_2, ex1_2, hf⟩ := f_lt hf
    refine j_top ex1_2 ?_
    refine j_istore_n (lv' := [(0, .ref (ad 50)), (1, .int x1_2), (2, .int x2)]) X dX5_writtenCount_16 rfl (by decide) rfl ?_
    refine j_iinc (v := (x2 + (nI 1))) (lv' := [(0, .ref (ad 50)), (1, .int x1_2), (2, .int (x2 + (nI 1)))]) X 2 dX5_writtenCount_17 rfl rfl (by decide) rfl ?_
    refine j_goto (tgt := 4) X dX5_writtenCount_20 (by decide) ?_
    exact ih _ _ hf
set_option maxRecDepth 100000 in
set_option maxHeartbeats 4000000 in
theorem c_X5_writtenCount (hI : Inj 490 ad) {w : Wd} {out : Int32} (hf : m_X5_writtenCount w = some out) : Met l yX5_writtenCount wsX5_writtenCount rmX5_writtenCount (va_Pc [.ref (ad 50)] (PW D (tC cI cL cS) 490 ad (cellC cI cL cS ad) w)) (QWi D 490 ad (cellC cI cL cS ad) out w) 0 0 (AW 490 ad) := by
  refine mk_met (maxL := 3) (ret := (some .int)) RX5 hI (by decide) rfl rfl (Nat.le_of_ble_eq_true rfl) rfl rfl (fun p e s m args below meth c X Y => ?_)
  unfold m_X5_writtenCount at hf
  refine j_iconst X (v := (nI 0)) (by decide) dX5_writtenCount_0 ?_
  refine j_istore_n (lv' := [(0, .ref (ad 50)), (1, .int (nI 0))]) X dX5_writtenCount_1 rfl (by decide) rfl ?_
  refine j_iconst X (v := (nI 0)) (by decide) dX5_writtenCount_2 ?_
  refine j_istore_n (lv' := [(0, .ref (ad 50)), (1, .int (nI 0)), (2, .int (nI 0))]) X dX5_writtenCount_3 rfl (by decide) rfl ?_
  refine t_X5_writtenCount_L4 X Y _ _ _ hf
abbrev rmX6_sizeOf : Room := { frames := 1, cells := 0, slots := 0, locals := 20 }
set_option maxRecDepth 100000 in
set_option maxHeartbeats 4000000 in
theorem c_X6_sizeOf (hI : Inj 490 ad) {x0 : Int32} {w : Wd} {out : Int32} (hf : m_X6_sizeOf x0 = some out) : Met l yX6_sizeOf wsX6_sizeOf rmX6_sizeOf (va_Pc [.int x0] (PW D (tC cI cL cS) 490 ad (cellC cI cL cS ad) w)) (QWi D 490 ad (cellC cI cL cS ad) out w) 0 0 (AW 490 ad) := by
  refine mk_met (maxL := 1) (ret := (some .int)) RX6 hI (by decide) rfl rfl (Nat.le_of_ble_eq_true rfl) rfl rfl (fun p e s m args below meth c X Y => ?_)
  unfold m_X6_sizeOf at hf
  refine j_iload_n X 0 dX6_sizeOf_0 rfl rfl ?_
  obtain ⟨o1, ho1, hf⟩ := f_bd hf
  refine j_callSi X [.int x0] (c_J6_bitCount_0f7a4 X.2.2.2.2.2.2.2 ho1) (va_cwS 1 X.2.2.2.2.1 gX6_sizeOf_J6_bitCount_0f7a4 rfl rfl rfl (by decide +kernel) ⟨Nat.le_of_ble_eq_true rfl, Nat.le_of_ble_eq_true rfl⟩) rfl rfl (Nat.le_of_ble_eq_true rfl) dX6_sizeOf_1 ?_
  exact j_iret X Y (f_s hf) rfl dX6_sizeOf_4
abbrev rmX5_knownCount : Room := { frames := 2, cells := 0, slots := 0, locals := 40 }
set_option maxRecDepth 100000 in
set_option maxHeartbeats 4000000 in
theorem t_X5_knownCount_L4 (X : CX p rmX5_knownCount s m args c cX5_knownCount 4 RX5 wsX5_knownCount D (tC cI cL cS) 490 ad) (Y : RX meth (some .int)) {x1 : Int32} {w : Wd} {out : Int32} : ∀ (n : Nat) (x2 : Int32) (x3 : Int32), m_X5_knownCount_L4 x1 w n x2 x3 = some out → WJ p l e rmX5_knownCount s m args below meth c (MQ below (QWi D 490 ad (cellC cI cL cS ad) out w) args s 0 0 (AW 490 ad)) 4 D 490 ad (cellC cI cL cS ad) w 4 [(0, .ref (ad 50)), (1, .int x1), (2, .int x2), (3, .int x3)] [] := by
  intro n
  induction n with
  | zero => intro x2 x3 hf; exact f_n hf
  | succ n ih =>
    intro x2 x3 hf
    rw [m_X5_knownCount_L4] at hf
    refine j_iload_n X 3 dX5_knownCount_4 rfl rfl ?_
    refine j_iconst X (v := (nI 4)) (by decide) dX5_knownCount_5 ?_
    refine j_icmp_ge (tgt := 27) X dX5_knownCount_6 (by decide) (fun c => ?_) (fun c => ?_)
    · replace hf := f_t c hf
      refine j_iload_n X 2 dX5_knownCount_27 rfl rfl ?_
      exact j_iret X Y (f_s hf) rfl dX5_knownCount_28
    replace hf := f_f c hf
    refine j_iload_n X 2 dX5_knownCount_9 rfl rfl ?_
    refine j_aload_n X 0 dX5_knownCount_10 rfl rfl ?_
    refine j_iload_n X 1 dX5_knownCount_11 rfl rfl ?_
    refine j_iload_n X 3 dX5_knownCount_12 rfl rfl ?_
    obtain ⟨o1, ho1, hf⟩ := f_bd hf
    refine j_callVi X oS0 rfl rfl [.int x1, .int x3] (c_X5_knownOf X.2.2.2.2.2.2.2 ho1) (cwV 2 X.2.2.2.2.1 gX5_knownCount_X5_knownOf rfl rfl rfl (by decide +kernel) ⟨Nat.le_of_ble_eq_true rfl, Nat.le_of_ble_eq_true rfl⟩) rfl rfl (Nat.le_of_ble_eq_true rfl) dX5_knownCount_13 ?_
    obtain ⟨o2, ho2, hf⟩ := f_bd hf
    refine j_callSi X [.int o1] (c_X6_sizeOf X.2.2.2.2.2.2.2 ho2) (va_cwS 1 X.2.2.2.2.1 gX5_knownCount_X6_sizeOf rfl rfl rfl (by decide +kernel) ⟨Nat.le_of_ble_eq_true rfl, Nat.le_of_ble_eq_true rfl⟩) rfl rfl (Nat.le_of_ble_eq_true rfl) dX5_knownCount_16 ?_
    refine j_iadd X dX5_knownCount_19 ?_
    obtain ⟨x2_3, ex2_3, hf⟩ := f_lt hf
    refine j_top ex2_3 ?_
    refine j_istore_n (lv' := [(0, .ref (ad 50)), (1, .int x1), (2, .int x2_3), (3, .int x3)]) X dX5_knownCount_20 rfl (by decide) rfl ?_
    refine j_iinc (v := (x3 + (nI 1))) (lv' := [(0, .ref (ad 50)), (1, .int x1), (2, .int x2_3), (3, .int (x3 + (nI 1)))]) X 3 dX5_knownCount_21 rfl rfl (by decide) rfl ?_
    refine j_goto (tgt := 4) X dX5_knownCount_24 (by decide) ?_
    exact ih _ _ hf
set_option maxRecDepth 100000 in
set_option maxHeartbeats 4000000 in
theorem c_X5_knownCount (hI : Inj 490 ad) {x1 : Int32} {w : Wd} {out : Int32} (hf : m_X5_knownCount x1 w = some out) : Met l yX5_knownCount wsX5_knownCount rmX5_knownCount (va_Pc [.ref (ad 50), .int x1] (PW D (tC cI cL cS) 490 ad (cellC cI cL cS ad) w)) (QWi D 490 ad (cellC cI cL cS ad) out w) 0 0 (AW 490 ad) := by
  refine mk_met (maxL := 4) (ret := (some .int)) RX5 hI (by decide) rfl rfl (Nat.le_of_ble_eq_true rfl) rfl rfl (fun p e s m args below meth c X Y => ?_)
  unfold m_X5_knownCount at hf
  refine j_iconst X (v := (nI 0)) (by decide) dX5_knownCount_0 ?_
  refine j_istore_n (lv' := [(0, .ref (ad 50)), (1, .int x1), (2, .int (nI 0))]) X dX5_knownCount_1 rfl (by decide) rfl ?_
  refine j_iconst X (v := (nI 0)) (by decide) dX5_knownCount_2 ?_
  refine j_istore_n (lv' := [(0, .ref (ad 50)), (1, .int x1), (2, .int (nI 0)), (3, .int (nI 0))]) X dX5_knownCount_3 rfl (by decide) rfl ?_
  refine t_X5_knownCount_L4 X Y _ _ _ hf
abbrev rmX6_exceptionsIn : Room := { frames := 2, cells := 0, slots := 0, locals := 40 }
set_option maxRecDepth 100000 in
set_option maxHeartbeats 4000000 in
theorem c_X6_exceptionsIn (hI : Inj 490 ad) {x0 : Int32} {w : Wd} {out : Int32} (hf : m_X6_exceptionsIn x0 = some out) : Met l yX6_exceptionsIn wsX6_exceptionsIn rmX6_exceptionsIn (va_Pc [.int x0] (PW D (tC cI cL cS) 490 ad (cellC cI cL cS ad) w)) (QWi D 490 ad (cellC cI cL cS ad) out w) 0 0 (AW 490 ad) := by
  refine mk_met (maxL := 1) (ret := (some .int)) RX6 hI (by decide) rfl rfl (Nat.le_of_ble_eq_true rfl) rfl rfl (fun p e s m args below meth c X Y => ?_)
  unfold m_X6_exceptionsIn at hf
  refine j_iload_n X 0 dX6_exceptionsIn_0 rfl rfl ?_
  obtain ⟨o1, ho1, hf⟩ := f_bd hf
  refine j_callSi X [.int x0] (c_X6_greatest X.2.2.2.2.2.2.2 ho1) (va_cwS 1 X.2.2.2.2.1 gX6_exceptionsIn_X6_greatest rfl rfl rfl (by decide +kernel) ⟨Nat.le_of_ble_eq_true rfl, Nat.le_of_ble_eq_true rfl⟩) rfl rfl (Nat.le_of_ble_eq_true rfl) dX6_exceptionsIn_1 ?_
  refine j_iload_n X 0 dX6_exceptionsIn_4 rfl rfl ?_
  obtain ⟨o2, ho2, hf⟩ := f_bd hf
  refine j_callSi X [.int x0] (c_X6_sizeOf X.2.2.2.2.2.2.2 ho2) (va_cwS 1 X.2.2.2.2.1 gX6_exceptionsIn_X6_sizeOf rfl rfl rfl (by decide +kernel) ⟨Nat.le_of_ble_eq_true rfl, Nat.le_of_ble_eq_true rfl⟩) rfl rfl (Nat.le_of_ble_eq_true rfl) dX6_exceptionsIn_5 ?_
  refine j_isub X dX6_exceptionsIn_8 ?_
  exact j_iret X Y (f_s hf) rfl dX6_exceptionsIn_9
abbrev rmX5_exceptionCount : Room := { frames := 3, cells := 0, slots := 0, locals := 60 }
set_option maxRecDepth 100000 in
set_option maxHeartbeats 4000000 in
theorem t_X5_exceptionCount_L4 (X : CX p rmX5_exceptionCount s m args c cX5_exceptionCount 4 RX5 wsX5_exceptionCount D (tC cI cL cS) 490 ad) (Y : RX meth (some .int)) {x1 : Int32} {w : Wd} {out : Int32} : ∀ (n : Nat) (x2 : Int32) (x3 : Int32), m_X5_exceptionCount_L4 x1 w n x2 x3 = some out → WJ p l e rmX5_exceptionCount s m args below meth c (MQ below (QWi D 490 ad (cellC cI cL cS ad) out w) args s 0 0 (AW 490 ad)) 4 D 490 ad (cellC cI cL cS ad) w 4 [(0, .ref (ad 50)), (1, .int x1), (2, .int x2), (3, .int x3)] [] := by
  intro n
  induction n with
  | zero => intro x2 x3 hf; exact f_n hf
  | succ n ih =>
    intro x2 x3 hf
    rw [m_X5_exceptionCount_L4] at hf
    refine j_iload_n X 3 dX5_exceptionCount_4 rfl rfl ?_
    refine j_iconst X (v := (nI 4)) (by decide) dX5_exceptionCount_5 ?_
    refine j_icmp_ge (tgt := 27) X dX5_exceptionCount_6 (by decide) (fun c => ?_) (fun c => ?_)
    · replace hf := f_t c hf
      refine j_iload_n X 2 dX5_exceptionCount_27 rfl rfl ?_
      exact j_iret X Y (f_s hf) rfl dX5_exceptionCount_28
    replace hf := f_f c hf
    refine j_iload_n X 2 dX5_exceptionCount_9 rfl rfl ?_
    refine j_aload_n X 0 dX5_exceptionCount_10 rfl rfl ?_
    refine j_iload_n X 1 dX5_exceptionCount_11 rfl rfl ?_
    refine j_iload_n X 3 dX5_exceptionCount_12 rfl rfl ?_
    obtain ⟨o1, ho1, hf⟩ := f_bd hf
    refine j_callVi X oS0 rfl rfl [.int x1, .int x3] (c_X5_knownOf X.2.2.2.2.2.2.2 ho1) (cwV 2 X.2.2.2.2.1 gX5_exceptionCount_X5_knownOf rfl rfl rfl (by decide +kernel) ⟨Nat.le_of_ble_eq_true rfl, Nat.le_of_ble_eq_true rfl⟩) rfl rfl (Nat.le_of_ble_eq_true rfl) dX5_exceptionCount_13 ?_
    obtain ⟨o2, ho2, hf⟩ := f_bd hf
    refine j_callSi X [.int o1] (c_X6_exceptionsIn X.2.2.2.2.2.2.2 ho2) (va_cwS 1 X.2.2.2.2.1 gX5_exceptionCount_X6_exceptionsIn rfl rfl rfl (by decide +kernel) ⟨Nat.le_of_ble_eq_true rfl, Nat.le_of_ble_eq_true rfl⟩) rfl rfl (Nat.le_of_ble_eq_true rfl) dX5_exceptionCount_16 ?_
    refine j_iadd X dX5_exceptionCount_19 ?_
    obtain ⟨x2_3, ex2_3, hf⟩ := f_lt hf
    refine j_top ex2_3 ?_
    refine j_istore_n (lv' := [(0, .ref (ad 50)), (1, .int x1), (2, .int x2_3), (3, .int x3)]) X dX5_exceptionCount_20 rfl (by decide) rfl ?_
    refine j_iinc (v := (x3 + (nI 1))) (lv' := [(0, .ref (ad 50)), (1, .int x1), (2, .int x2_3), (3, .int (x3 + (nI 1)))]) X 3 dX5_exceptionCount_21 rfl rfl (by decide) rfl ?_
    refine j_goto (tgt := 4) X dX5_exceptionCount_24 (by decide) ?_
    exact ih _ _ hf
set_option maxRecDepth 100000 in
set_option maxHeartbeats 4000000 in
theorem c_X5_exceptionCount (hI : Inj 490 ad) {x1 : Int32} {w : Wd} {out : Int32} (hf : m_X5_exceptionCount x1 w = some out) : Met l yX5_exceptionCount wsX5_exceptionCount rmX5_exceptionCount (va_Pc [.ref (ad 50), .int x1] (PW D (tC cI cL cS) 490 ad (cellC cI cL cS ad) w)) (QWi D 490 ad (cellC cI cL cS ad) out w) 0 0 (AW 490 ad) := by
  refine mk_met (maxL := 4) (ret := (some .int)) RX5 hI (by decide) rfl rfl (Nat.le_of_ble_eq_true rfl) rfl rfl (fun p e s m args below meth c X Y => ?_)
  unfold m_X5_exceptionCount at hf
  refine j_iconst X (v := (nI 0)) (by decide) dX5_exceptionCount_0 ?_
  refine j_istore_n (lv' := [(0, .ref (ad 50)), (1, .int x1), (2, .int (nI 0))]) X dX5_exceptionCount_1 rfl (by decide) rfl ?_
  refine j_iconst X (v := (nI 0)) (by decide) dX5_exceptionCount_2 ?_
  refine j_istore_n (lv' := [(0, .ref (ad 50)), (1, .int x1), (2, .int (nI 0)), (3, .int (nI 0))]) X dX5_exceptionCount_3 rfl (by decide) rfl ?_
  refine t_X5_exceptionCount_L4 X Y _ _ _ hf
abbrev rmX5_vectorSize : Room := { frames := 2, cells := 0, slots := 0, locals := 40 }
set_option maxRecDepth 100000 in
set_option maxHeartbeats 4000000 in
theorem t_X5_vectorSize_j33 (X : CX p rmX5_vectorSize s m args c cX5_vectorSize 5 RX5 wsX5_vectorSize D (tC cI cL cS) 490 ad) (Y : RX meth (some .int)) {x1 : Int32} {x3 : Int32} {s0 : Int32} {s1 : Int32} {s2 : Int32} {w : Wd} {kc : Int32 → Int32 → Option (Int32)} {out : Int32} (hf : m_X5_vectorSize_j33 x1 x3 s0 s1 s2 w kc = some out) (hk_kc : ∀ (y2 : Int32) (y3 : Int32), kc y2 y3 = some out → WJ p l e rmX5_vectorSize s m args below meth c (MQ below (QWi D 490 ad (cellC cI cL cS ad) out w) args s 0 0 (AW 490 ad)) 5 D 490 ad (cellC cI cL cS ad) w 4 [(0, .ref (ad 50)), (1, .int x1), (2, .int y2), (3, .int y3)] []) : WJ p l e rmX5_vectorSize s m args below meth c (MQ below (QWi D 490 ad (cellC cI cL cS ad) out w) args s 0 0 (AW 490 ad)) 5 D 490 ad (cellC cI cL cS ad) w 33 [(0, .ref (ad 50)), (1, .int x1), (3, .int x3)] [.int s2, .int s1, .int s0] := by
  unfold m_X5_vectorSize_j33 at hf
  refine j_iadd X dX5_vectorSize_33 ?_
  refine j_iadd X dX5_vectorSize_34 ?_
  obtain ⟨x2_1, ex2_1, hf⟩ := f_lt hf
  refine j_top ex2_1 ?_
  refine j_istore_n (lv' := [(0, .ref (ad 50)), (1, .int x1), (2, .int x2_1), (3, .int x3)]) X dX5_vectorSize_35 rfl (by decide) rfl ?_
  refine j_iinc (v := (x3 + (nI 1))) (lv' := [(0, .ref (ad 50)), (1, .int x1), (2, .int x2_1), (3, .int (x3 + (nI 1)))]) X 3 dX5_vectorSize_36 rfl rfl (by decide) rfl ?_
  refine j_goto (tgt := 4) X dX5_vectorSize_39 (by decide) ?_
  exact hk_kc _ _ hf
set_option maxRecDepth 100000 in
set_option maxHeartbeats 4000000 in
theorem t_X5_vectorSize_L4 (X : CX p rmX5_vectorSize s m args c cX5_vectorSize 5 RX5 wsX5_vectorSize D (tC cI cL cS) 490 ad) (Y : RX meth (some .int)) {x1 : Int32} {w : Wd} {out : Int32} : ∀ (n : Nat) (x2 : Int32) (x3 : Int32), m_X5_vectorSize_L4 x1 w n x2 x3 = some out → WJ p l e rmX5_vectorSize s m args below meth c (MQ below (QWi D 490 ad (cellC cI cL cS ad) out w) args s 0 0 (AW 490 ad)) 5 D 490 ad (cellC cI cL cS ad) w 4 [(0, .ref (ad 50)), (1, .int x1), (2, .int x2), (3, .int x3)] [] := by
  intro n
  induction n with
  | zero => intro x2 x3 hf; exact f_n hf
  | succ n ih =>
    intro x2 x3 hf
    rw [m_X5_vectorSize_L4] at hf
    refine j_iload_n X 3 dX5_vectorSize_4 rfl rfl ?_
    refine j_iconst X (v := (nI 4)) (by decide) dX5_vectorSize_5 ?_
    refine j_icmp_ge (tgt := 42) X dX5_vectorSize_6 (by decide) (fun c => ?_) (fun c => ?_)
    · replace hf := f_t c hf
      refine j_iload_n X 2 dX5_vectorSize_42 rfl rfl ?_
      exact j_iret X Y (f_s hf) rfl dX5_vectorSize_43
    replace hf := f_f c hf
    refine j_aload_n X 0 dX5_vectorSize_9 rfl rfl ?_
    refine j_iload_n X 1 dX5_vectorSize_10 rfl rfl ?_
    refine j_iload_n X 3 dX5_vectorSize_11 rfl rfl ?_
    obtain ⟨o1, ho1, hf⟩ := f_bd hf
    refine j_callVi X oS0 rfl rfl [.int x1, .int x3] (c_X5_knownOf X.2.2.2.2.2.2.2 ho1) (cwV 2 X.2.2.2.2.1 gX5_vectorSize_X5_knownOf rfl rfl rfl (by decide +kernel) ⟨Nat.le_of_ble_eq_true rfl, Nat.le_of_ble_eq_true rfl⟩) rfl rfl (Nat.le_of_ble_eq_true rfl) dX5_vectorSize_12 ?_
    refine j_istore (lv' := [(0, .ref (ad 50)), (1, .int x1), (2, .int x2), (3, .int x3), (4, .int o1)]) X dX5_vectorSize_15 (by decide) rfl ?_
    refine j_iload_n X 2 dX5_vectorSize_17 rfl rfl ?_
    refine j_iload X 4 dX5_vectorSize_18 rfl ?_
    obtain ⟨o2, ho2, hf⟩ := f_bd hf
    refine j_callSi X [.int o1] (c_X6_rangesIn X.2.2.2.2.2.2.2 ho2) (va_cwS 1 X.2.2.2.2.1 gX5_vectorSize_X6_rangesIn rfl rfl rfl (by decide +kernel) ⟨Nat.le_of_ble_eq_true rfl, Nat.le_of_ble_eq_true rfl⟩) rfl rfl (Nat.le_of_ble_eq_true rfl) dX5_vectorSize_20 ?_
    refine j_iload X 4 dX5_vectorSize_23 rfl ?_
    refine j_if_eq (tgt := 32) X dX5_vectorSize_25 (by decide) (fun c => ?_) (fun c => ?_)
    · replace hf := f_t c hf
      refine j_iconst X (v := (nI 0)) (by decide) dX5_vectorSize_32 ?_
      refine j_sub [0, 1, 3] rfl ?_
      exact t_X5_vectorSize_j33 X Y hf ih
    replace hf := f_f c hf
    refine j_iconst X (v := (nI 1)) (by decide) dX5_vectorSize_28 ?_
    refine j_goto (tgt := 33) X dX5_vectorSize_29 (by decide) ?_
    refine j_sub [0, 1, 3] rfl ?_
    exact t_X5_vectorSize_j33 X Y hf ih
set_option maxRecDepth 100000 in
set_option maxHeartbeats 4000000 in
theorem c_X5_vectorSize (hI : Inj 490 ad) {x1 : Int32} {w : Wd} {out : Int32} (hf : m_X5_vectorSize x1 w = some out) : Met l yX5_vectorSize wsX5_vectorSize rmX5_vectorSize (va_Pc [.ref (ad 50), .int x1] (PW D (tC cI cL cS) 490 ad (cellC cI cL cS ad) w)) (QWi D 490 ad (cellC cI cL cS ad) out w) 0 0 (AW 490 ad) := by
  refine mk_met (maxL := 5) (ret := (some .int)) RX5 hI (by decide) rfl rfl (Nat.le_of_ble_eq_true rfl) rfl rfl (fun p e s m args below meth c X Y => ?_)
  unfold m_X5_vectorSize at hf
  refine j_iconst X (v := (nI 0)) (by decide) dX5_vectorSize_0 ?_
  refine j_istore_n (lv' := [(0, .ref (ad 50)), (1, .int x1), (2, .int (nI 0))]) X dX5_vectorSize_1 rfl (by decide) rfl ?_
  refine j_iconst X (v := (nI 0)) (by decide) dX5_vectorSize_2 ?_
  refine j_istore_n (lv' := [(0, .ref (ad 50)), (1, .int x1), (2, .int (nI 0)), (3, .int (nI 0))]) X dX5_vectorSize_3 rfl (by decide) rfl ?_
  refine t_X5_vectorSize_L4 X Y _ _ _ hf
abbrev rmX6_exceptionAt : Room := { frames := 1, cells := 0, slots := 0, locals := 21 }
set_option maxRecDepth 100000 in
set_option maxHeartbeats 4000000 in
theorem t_X6_exceptionAt_j28 (X : CX p rmX6_exceptionAt s m args c cX6_exceptionAt 4 RX6 wsX6_exceptionAt D (tC cI cL cS) 490 ad) (Y : RX meth (some .int)) {x0 : Int32} {x1 : Int32} {x2 : Int32} {x3 : Int32} {w : Wd} {kc : Int32 → Int32 → Option (Int32)} {out : Int32} (hf : m_X6_exceptionAt_j28 x0 x1 x2 x3 kc = some out) (hk_kc : ∀ (y2 : Int32) (y3 : Int32), kc y2 y3 = some out → WJ p l e rmX6_exceptionAt s m args below meth c (MQ below (QWi D 490 ad (cellC cI cL cS ad) out w) args s 0 0 (AW 490 ad)) 4 D 490 ad (cellC cI cL cS ad) w 4 [(0, .int x0), (1, .int x1), (2, .int y2), (3, .int y3)] []) : WJ p l e rmX6_exceptionAt s m args below meth c (MQ below (QWi D 490 ad (cellC cI cL cS ad) out w) args s 0 0 (AW 490 ad)) 4 D 490 ad (cellC cI cL cS ad) w 28 [(0, .int x0), (1, .int x1), (2, .int x2), (3, .int x3)] [] := by
  unfold m_X6_exceptionAt_j28 at hf
  refine j_iinc (v := (x3 + (nI 1))) (lv' := [(0, .int x0), (1, .int x1), (2, .int x2), (3, .int (x3 + (nI 1)))]) X 3 dX6_exceptionAt_28 rfl rfl (by decide) rfl ?_
  refine j_goto (tgt := 4) X dX6_exceptionAt_31 (by decide) ?_
  exact hk_kc _ _ hf
set_option maxRecDepth 100000 in
set_option maxHeartbeats 4000000 in
theorem t_X6_exceptionAt_L4 (X : CX p rmX6_exceptionAt s m args c cX6_exceptionAt 4 RX6 wsX6_exceptionAt D (tC cI cL cS) 490 ad) (Y : RX meth (some .int)) {x0 : Int32} {x1 : Int32} {w : Wd} {out : Int32} : ∀ (n : Nat) (x2 : Int32) (x3 : Int32), m_X6_exceptionAt_L4 x0 x1 n x2 x3 = some out → WJ p l e rmX6_exceptionAt s m args below meth c (MQ below (QWi D 490 ad (cellC cI cL cS ad) out w) args s 0 0 (AW 490 ad)) 4 D 490 ad (cellC cI cL cS ad) w 4 [(0, .int x0), (1, .int x1), (2, .int x2), (3, .int x3)] [] := by
  intro n
  induction n with
  | zero => intro x2 x3 hf; exact f_n hf
  | succ n ih =>
    intro x2 x3 hf
    rw [m_X6_exceptionAt_L4] at hf
    refine j_iload_n X 3 dX6_exceptionAt_4 rfl rfl ?_
    refine j_bipush X (v := (nI 24)) (by decide) dX6_exceptionAt_5 ?_
    refine j_icmp_gt (tgt := 34) X dX6_exceptionAt_7 (by decide) (fun c => ?_) (fun c => ?_)
    · replace hf := f_t c hf
      refine j_iconst X (v := (nI 0)) (by decide) dX6_exceptionAt_34 ?_
      exact j_iret X Y (f_s hf) rfl dX6_exceptionAt_35
    replace hf := f_f c hf
    refine j_iload_n X 0 dX6_exceptionAt_10 rfl rfl ?_
    refine j_iload_n X 3 dX6_exceptionAt_11 rfl rfl ?_
    obtain ⟨o1, ho1, hf⟩ := f_bd hf
    refine j_callSi X [.int x0, .int x3] (c_X6_contains X.2.2.2.2.2.2.2 ho1) (va_cwS 2 X.2.2.2.2.1 gX6_exceptionAt_X6_contains rfl rfl rfl (by decide +kernel) ⟨Nat.le_of_ble_eq_true rfl, Nat.le_of_ble_eq_true rfl⟩) rfl rfl (Nat.le_of_ble_eq_true rfl) dX6_exceptionAt_12 ?_
    refine j_if_ne (tgt := 28) X dX6_exceptionAt_15 (by decide) (fun c => ?_) (fun c => ?_)
    · replace hf := f_t c hf
      exact t_X6_exceptionAt_j28 X Y hf ih
    replace hf := f_fn c hf
    refine j_iload_n X 2 dX6_exceptionAt_18 rfl rfl ?_
    refine j_iload_n X 1 dX6_exceptionAt_19 rfl rfl ?_
    refine j_icmp_ne (tgt := 25) X dX6_exceptionAt_20 (by decide) (fun c => ?_) (fun c => ?_)
    · replace hf := f_t c hf
      refine j_iinc (v := (x2 + (nI 1))) (lv' := [(0, .int x0), (1, .int x1), (2, .int (x2 + (nI 1))), (3, .int x3)]) X 2 dX6_exceptionAt_25 rfl rfl (by decide) rfl ?_
      exact t_X6_exceptionAt_j28 X Y hf ih
    replace hf := f_fn c hf
    refine j_iload_n X 3 dX6_exceptionAt_23 rfl rfl ?_
    exact j_iret X Y (f_s hf) rfl dX6_exceptionAt_24
set_option maxRecDepth 100000 in
set_option maxHeartbeats 4000000 in
theorem c_X6_exceptionAt (hI : Inj 490 ad) {x0 : Int32} {x1 : Int32} {w : Wd} {out : Int32} (hf : m_X6_exceptionAt x0 x1 = some out) : Met l yX6_exceptionAt wsX6_exceptionAt rmX6_exceptionAt (va_Pc [.int x0, .int x1] (PW D (tC cI cL cS) 490 ad (cellC cI cL cS ad) w)) (QWi D 490 ad (cellC cI cL cS ad) out w) 0 0 (AW 490 ad) := by
  refine mk_met (maxL := 4) (ret := (some .int)) RX6 hI (by decide) rfl rfl (Nat.le_of_ble_eq_true rfl) rfl rfl (fun p e s m args below meth c X Y => ?_)
  unfold m_X6_exceptionAt at hf
  refine j_iconst X (v := (nI 0)) (by decide) dX6_exceptionAt_0 ?_
  refine j_istore_n (lv' := [(0, .int x0), (1, .int x1), (2, .int (nI 0))]) X dX6_exceptionAt_1 rfl (by decide) rfl ?_
  refine j_iconst X (v := (nI 1)) (by decide) dX6_exceptionAt_2 ?_
  refine j_istore_n (lv' := [(0, .int x0), (1, .int x1), (2, .int (nI 0)), (3, .int (nI 1))]) X dX6_exceptionAt_3 rfl (by decide) rfl ?_
  refine t_X6_exceptionAt_L4 X Y _ _ _ hf
abbrev rmX7_commitIfDone : Room := { frames := 2, cells := 0, slots := 0, locals := 80 }
theorem inX7_commitIfDone_X7 : ∀ w ∈ wsX70, w ∈ wsX7_commitIfDone := fun _ h => List.mem_cons_of_mem _ (List.mem_append_left _ (List.mem_append_right _ h))
set_option maxRecDepth 100000 in
set_option maxHeartbeats 4000000 in
theorem c_X7_commitIfDone (hI : Inj 490 ad) {x1 : Int32} {w : Wd} {out : Int32 × Wd} (hf : m_X7_commitIfDone x1 w = some out) : Met l yX7_commitIfDone wsX7_commitIfDone rmX7_commitIfDone (va_Pc [.ref (ad 472), .int x1] (PW D (tC cI cL cS) 490 ad (cellC cI cL cS ad) w)) (QWi D 490 ad (cellC cI cL cS ad) out.1 out.2) 0 0 (AW 490 ad) := by
  refine mk_met (maxL := 2) (ret := (some .int)) RX7 hI (by decide) rfl rfl (Nat.le_of_ble_eq_true rfl) rfl rfl (fun p e s m args below meth c X Y => ?_)
  unfold m_X7_commitIfDone at hf
  refine j_iload_n X 1 dX7_commitIfDone_0 rfl rfl ?_
  refine j_if_lt (tgt := 11) X dX7_commitIfDone_1 (by decide) (fun c => ?_) (fun c => ?_)
  · replace hf := f_t c hf
    refine j_iload_n X 1 dX7_commitIfDone_11 rfl rfl ?_
    exact j_iret X Y (f_p1 hf) (f_p2 hf) dX7_commitIfDone_12
  replace hf := f_f c hf
  refine j_aload_n X 0 dX7_commitIfDone_4 rfl rfl ?_
  refine j_get (ref := "ProxyVersions") (index := 37) (v := .ref (ad 477)) X oPV inX7_commitIfDone_X7 rfl 3 (by decide) (List.mem_of_getElem? (i := 1) rfl) rfl rfl dX7_commitIfDone_5 ?_
  obtain ⟨o1, ho1, hf⟩ := f_bd hf
  refine j_callVv X oHi rfl rfl [] (c_X1_commit X.2.2.2.2.2.2.2 ho1) (cwV 0 X.2.2.2.2.1 gX7_commitIfDone_X1_commit rfl rfl rfl (by decide +kernel) ⟨Nat.le_of_ble_eq_true rfl, Nat.le_of_ble_eq_true rfl⟩) rfl rfl (Nat.le_of_ble_eq_true rfl) dX7_commitIfDone_8 ?_
  refine j_iload_n X 1 dX7_commitIfDone_11 rfl rfl ?_
  exact j_iret X Y (f_p1 hf) (f_p2 hf) dX7_commitIfDone_12
abbrev rmX7_addProxy : Room := { frames := 4, cells := 0, slots := 0, locals := 124 }
theorem inX7_addProxy_X7 : ∀ w ∈ wsX70, w ∈ wsX7_addProxy := fun _ h => List.mem_cons_of_mem _ (List.mem_append_left _ (List.mem_append_left _ (List.mem_append_left _ (List.mem_append_left _ (List.mem_append_right _ h)))))
set_option maxRecDepth 100000 in
set_option maxHeartbeats 4000000 in
theorem c_X7_addProxy (hI : Inj 490 ad) {x1 : Int32} {w : Wd} {out : Int32 × Wd} (hf : m_X7_addProxy x1 w = some out) : Met l yX7_addProxy wsX7_addProxy rmX7_addProxy (va_Pc [.ref (ad 472), .int x1] (PW D (tC cI cL cS) 490 ad (cellC cI cL cS ad) w)) (QWi D 490 ad (cellC cI cL cS ad) out.1 out.2) 0 0 (AW 490 ad) := by
  refine mk_met (maxL := 2) (ret := (some .int)) RX7 hI (by decide) rfl rfl (Nat.le_of_ble_eq_true rfl) rfl rfl (fun p e s m args below meth c X Y => ?_)
  unfold m_X7_addProxy at hf
  refine j_aload_n X 0 dX7_addProxy_0 rfl rfl ?_
  refine j_get (ref := "ProxyVersions") (index := 37) (v := .ref (ad 477)) X oPV inX7_addProxy_X7 rfl 3 (by decide) (List.mem_of_getElem? (i := 1) rfl) rfl rfl dX7_addProxy_1 ?_
  refine j_aload_n X 0 dX7_addProxy_4 rfl rfl ?_
  refine j_get (ref := "ProxyVersions") (index := 12) (v := .ref (ad 50)) X oPV inX7_addProxy_X7 rfl 0 (by decide) (List.mem_of_getElem? (i := 2) rfl) rfl rfl dX7_addProxy_5 ?_
  obtain ⟨o1, ho1, hf⟩ := f_bd hf
  refine j_callVv X oHi rfl rfl [.ref (ad 50)] (c_X1_stage X.2.2.2.2.2.2.2 ho1) (cwV 1 X.2.2.2.2.1 gX7_addProxy_X1_stage rfl rfl rfl (by decide +kernel) ⟨Nat.le_of_ble_eq_true rfl, Nat.le_of_ble_eq_true rfl⟩) rfl rfl (Nat.le_of_ble_eq_true rfl) dX7_addProxy_8 ?_
  refine j_aload_n X 0 dX7_addProxy_11 rfl rfl ?_
  refine j_aload_n X 0 dX7_addProxy_12 rfl rfl ?_
  refine j_get (ref := "ProxyVersions") (index := 30) (v := .ref (ad 476)) X oPV inX7_addProxy_X7 rfl 2 (by decide) (List.mem_of_getElem? (i := 3) rfl) rfl rfl dX7_addProxy_13 ?_
  refine j_iload_n X 1 dX7_addProxy_16 rfl rfl ?_
  obtain ⟨o2, ho2, hf⟩ := f_bd hf
  refine j_callVi X oNe rfl rfl [.int x1] (c_X3_insertProxy X.2.2.2.2.2.2.2 ho2) (cwV 1 X.2.2.2.2.1 gX7_addProxy_X3_insertProxy rfl rfl rfl (by decide +kernel) ⟨Nat.le_of_ble_eq_true rfl, Nat.le_of_ble_eq_true rfl⟩) rfl rfl (Nat.le_of_ble_eq_true rfl) dX7_addProxy_17 ?_
  obtain ⟨o3, ho3, hf⟩ := f_bd hf
  refine j_callVi X oPV rfl rfl [.int o2.1] (c_X7_commitIfDone X.2.2.2.2.2.2.2 ho3) (cwV 1 X.2.2.2.2.1 gX7_addProxy_X7_commitIfDone rfl rfl rfl (by decide +kernel) ⟨Nat.le_of_ble_eq_true rfl, Nat.le_of_ble_eq_true rfl⟩) rfl rfl (Nat.le_of_ble_eq_true rfl) dX7_addProxy_20 ?_
  exact j_iret X Y (f_p1 hf) (f_p2 hf) dX7_addProxy_23
abbrev rmX7_setHome : Room := { frames := 4, cells := 0, slots := 0, locals := 124 }
theorem inX7_setHome_X7 : ∀ w ∈ wsX70, w ∈ wsX7_setHome := fun _ h => List.mem_cons_of_mem _ (List.mem_append_left _ (List.mem_append_left _ (List.mem_append_left _ (List.mem_append_left _ (List.mem_append_right _ h)))))
set_option maxRecDepth 100000 in
set_option maxHeartbeats 4000000 in
theorem c_X7_setHome (hI : Inj 490 ad) {x1 : Int32} {x2 : Int32} {w : Wd} {out : Int32 × Wd} (hf : m_X7_setHome x1 x2 w = some out) : Met l yX7_setHome wsX7_setHome rmX7_setHome (va_Pc [.ref (ad 472), .int x1, .int x2] (PW D (tC cI cL cS) 490 ad (cellC cI cL cS ad) w)) (QWi D 490 ad (cellC cI cL cS ad) out.1 out.2) 0 0 (AW 490 ad) := by
  refine mk_met (maxL := 3) (ret := (some .int)) RX7 hI (by decide) rfl rfl (Nat.le_of_ble_eq_true rfl) rfl rfl (fun p e s m args below meth c X Y => ?_)
  unfold m_X7_setHome at hf
  refine j_aload_n X 0 dX7_setHome_0 rfl rfl ?_
  refine j_get (ref := "ProxyVersions") (index := 37) (v := .ref (ad 477)) X oPV inX7_setHome_X7 rfl 3 (by decide) (List.mem_of_getElem? (i := 1) rfl) rfl rfl dX7_setHome_1 ?_
  refine j_aload_n X 0 dX7_setHome_4 rfl rfl ?_
  refine j_get (ref := "ProxyVersions") (index := 12) (v := .ref (ad 50)) X oPV inX7_setHome_X7 rfl 0 (by decide) (List.mem_of_getElem? (i := 2) rfl) rfl rfl dX7_setHome_5 ?_
  obtain ⟨o1, ho1, hf⟩ := f_bd hf
  refine j_callVv X oHi rfl rfl [.ref (ad 50)] (c_X1_stage X.2.2.2.2.2.2.2 ho1) (cwV 1 X.2.2.2.2.1 gX7_setHome_X1_stage rfl rfl rfl (by decide +kernel) ⟨Nat.le_of_ble_eq_true rfl, Nat.le_of_ble_eq_true rfl⟩) rfl rfl (Nat.le_of_ble_eq_true rfl) dX7_setHome_8 ?_
  refine j_aload_n X 0 dX7_setHome_11 rfl rfl ?_
  refine j_aload_n X 0 dX7_setHome_12 rfl rfl ?_
  refine j_get (ref := "ProxyVersions") (index := 30) (v := .ref (ad 476)) X oPV inX7_setHome_X7 rfl 2 (by decide) (List.mem_of_getElem? (i := 3) rfl) rfl rfl dX7_setHome_13 ?_
  refine j_iload_n X 1 dX7_setHome_16 rfl rfl ?_
  refine j_iload_n X 2 dX7_setHome_17 rfl rfl ?_
  obtain ⟨o2, ho2, hf⟩ := f_bd hf
  refine j_callVi X oNe rfl rfl [.int x1, .int x2] (c_X3_changeHome X.2.2.2.2.2.2.2 ho2) (cwV 2 X.2.2.2.2.1 gX7_setHome_X3_changeHome rfl rfl rfl (by decide +kernel) ⟨Nat.le_of_ble_eq_true rfl, Nat.le_of_ble_eq_true rfl⟩) rfl rfl (Nat.le_of_ble_eq_true rfl) dX7_setHome_18 ?_
  obtain ⟨o3, ho3, hf⟩ := f_bd hf
  refine j_callVi X oPV rfl rfl [.int o2.1] (c_X7_commitIfDone X.2.2.2.2.2.2.2 ho3) (cwV 1 X.2.2.2.2.1 gX7_setHome_X7_commitIfDone rfl rfl rfl (by decide +kernel) ⟨Nat.le_of_ble_eq_true rfl, Nat.le_of_ble_eq_true rfl⟩) rfl rfl (Nat.le_of_ble_eq_true rfl) dX7_setHome_21 ?_
  exact j_iret X Y (f_p1 hf) (f_p2 hf) dX7_setHome_24
abbrev rmX7_setLimits : Room := { frames := 4, cells := 0, slots := 0, locals := 124 }
theorem inX7_setLimits_X7 : ∀ w ∈ wsX70, w ∈ wsX7_setLimits := fun _ h => List.mem_cons_of_mem _ (List.mem_append_left _ (List.mem_append_left _ (List.mem_append_left _ (List.mem_append_left _ (List.mem_append_right _ h)))))
set_option maxRecDepth 100000 in
set_option maxHeartbeats 4000000 in
theorem c_X7_setLimits (hI : Inj 490 ad) {x1 : Int32} {x2 : Int32} {w : Wd} {out : Int32 × Wd} (hf : m_X7_setLimits x1 x2 w = some out) : Met l yX7_setLimits wsX7_setLimits rmX7_setLimits (va_Pc [.ref (ad 472), .int x1, .int x2] (PW D (tC cI cL cS) 490 ad (cellC cI cL cS ad) w)) (QWi D 490 ad (cellC cI cL cS ad) out.1 out.2) 0 0 (AW 490 ad) := by
  refine mk_met (maxL := 3) (ret := (some .int)) RX7 hI (by decide) rfl rfl (Nat.le_of_ble_eq_true rfl) rfl rfl (fun p e s m args below meth c X Y => ?_)
  unfold m_X7_setLimits at hf
  refine j_aload_n X 0 dX7_setLimits_0 rfl rfl ?_
  refine j_get (ref := "ProxyVersions") (index := 37) (v := .ref (ad 477)) X oPV inX7_setLimits_X7 rfl 3 (by decide) (List.mem_of_getElem? (i := 1) rfl) rfl rfl dX7_setLimits_1 ?_
  refine j_aload_n X 0 dX7_setLimits_4 rfl rfl ?_
  refine j_get (ref := "ProxyVersions") (index := 12) (v := .ref (ad 50)) X oPV inX7_setLimits_X7 rfl 0 (by decide) (List.mem_of_getElem? (i := 2) rfl) rfl rfl dX7_setLimits_5 ?_
  obtain ⟨o1, ho1, hf⟩ := f_bd hf
  refine j_callVv X oHi rfl rfl [.ref (ad 50)] (c_X1_stage X.2.2.2.2.2.2.2 ho1) (cwV 1 X.2.2.2.2.1 gX7_setLimits_X1_stage rfl rfl rfl (by decide +kernel) ⟨Nat.le_of_ble_eq_true rfl, Nat.le_of_ble_eq_true rfl⟩) rfl rfl (Nat.le_of_ble_eq_true rfl) dX7_setLimits_8 ?_
  refine j_aload_n X 0 dX7_setLimits_11 rfl rfl ?_
  refine j_aload_n X 0 dX7_setLimits_12 rfl rfl ?_
  refine j_get (ref := "ProxyVersions") (index := 30) (v := .ref (ad 476)) X oPV inX7_setLimits_X7 rfl 2 (by decide) (List.mem_of_getElem? (i := 3) rfl) rfl rfl dX7_setLimits_13 ?_
  refine j_iload_n X 1 dX7_setLimits_16 rfl rfl ?_
  refine j_iload_n X 2 dX7_setLimits_17 rfl rfl ?_
  obtain ⟨o2, ho2, hf⟩ := f_bd hf
  refine j_callVi X oNe rfl rfl [.int x1, .int x2] (c_X3_changeLimits X.2.2.2.2.2.2.2 ho2) (cwV 2 X.2.2.2.2.1 gX7_setLimits_X3_changeLimits rfl rfl rfl (by decide +kernel) ⟨Nat.le_of_ble_eq_true rfl, Nat.le_of_ble_eq_true rfl⟩) rfl rfl (Nat.le_of_ble_eq_true rfl) dX7_setLimits_18 ?_
  obtain ⟨o3, ho3, hf⟩ := f_bd hf
  refine j_callVi X oPV rfl rfl [.int o2.1] (c_X7_commitIfDone X.2.2.2.2.2.2.2 ho3) (cwV 1 X.2.2.2.2.1 gX7_setLimits_X7_commitIfDone rfl rfl rfl (by decide +kernel) ⟨Nat.le_of_ble_eq_true rfl, Nat.le_of_ble_eq_true rfl⟩) rfl rfl (Nat.le_of_ble_eq_true rfl) dX7_setLimits_21 ?_
  exact j_iret X Y (f_p1 hf) (f_p2 hf) dX7_setLimits_24
abbrev rmX7_proxy : Room := { frames := 4, cells := 0, slots := 0, locals := 83 }
theorem inX7_proxy_X7 : ∀ w ∈ wsX70, w ∈ wsX7_proxy := fun _ h => List.mem_cons_of_mem _ (List.mem_append_left _ (List.mem_append_left _ (List.mem_append_left _ (List.mem_append_right _ h))))
set_option maxRecDepth 100000 in
set_option maxHeartbeats 4000000 in
theorem c_X7_proxy (hI : Inj 490 ad) {x1 : Int32} {x2 : Int32} {w : Wd} {out : Int32 × Wd} (hf : m_X7_proxy x1 x2 w = some out) : Met l yX7_proxy wsX7_proxy rmX7_proxy (va_Pc [.ref (ad 472), .int x1, .int x2] (PW D (tC cI cL cS) 490 ad (cellC cI cL cS ad) w)) (QWi D 490 ad (cellC cI cL cS ad) out.1 out.2) 0 0 (AW 490 ad) := by
  refine mk_met (maxL := 3) (ret := (some .int)) RX7 hI (by decide) rfl rfl (Nat.le_of_ble_eq_true rfl) rfl rfl (fun p e s m args below meth c X Y => ?_)
  unfold m_X7_proxy at hf
  refine j_aload_n X 0 dX7_proxy_0 rfl rfl ?_
  refine j_get (ref := "ProxyVersions") (index := 12) (v := .ref (ad 50)) X oPV inX7_proxy_X7 rfl 0 (by decide) (List.mem_of_getElem? (i := 1) rfl) rfl rfl dX7_proxy_1 ?_
  refine j_iload_n X 1 dX7_proxy_4 rfl rfl ?_
  obtain ⟨o1, ho1, hf⟩ := f_bd hf
  refine j_callVi X oS0 rfl rfl [.int x1] (c_X5_hasProxy X.2.2.2.2.2.2.2 ho1) (cwV 1 X.2.2.2.2.1 gX7_proxy_X5_hasProxy rfl rfl rfl (by decide +kernel) ⟨Nat.le_of_ble_eq_true rfl, Nat.le_of_ble_eq_true rfl⟩) rfl rfl (Nat.le_of_ble_eq_true rfl) dX7_proxy_5 ?_
  refine j_if_ne (tgt := 13) X dX7_proxy_8 (by decide) (fun c => ?_) (fun c => ?_)
  · replace hf := f_t c hf
    refine j_iload_n X 2 dX7_proxy_13 rfl rfl ?_
    by_cases c_0 : x2 = (nI 0)
    · replace hf := f_t c_0 hf
      refine j_tin (tgt := 60) (off := 46) X dX7_proxy_14 (by rw [c_0]; decide) (by rw [c_0]; decide) (by rw [c_0]; decide) (by decide) ?_
      refine j_iload_n X 1 dX7_proxy_60 rfl rfl ?_
      refine j_if_ne (tgt := 69) X dX7_proxy_61 (by decide) (fun c => ?_) (fun c => ?_)
      · replace hf := f_t c hf
        refine j_aload_n X 0 dX7_proxy_69 rfl rfl ?_
        refine j_get (ref := "ProxyVersions") (index := 12) (v := .ref (ad 50)) X oPV inX7_proxy_X7 rfl 0 (by decide) (List.mem_of_getElem? (i := 1) rfl) rfl rfl dX7_proxy_70 ?_
        refine j_iload_n X 1 dX7_proxy_73 rfl rfl ?_
        obtain ⟨o2, ho2, hf⟩ := f_bd hf
        refine j_callVi X oS0 rfl rfl [.int x1] (c_X5_parentOf X.2.2.2.2.2.2.2 ho2) (cwV 1 X.2.2.2.2.1 gX7_proxy_X5_parentOf rfl rfl rfl (by decide +kernel) ⟨Nat.le_of_ble_eq_true rfl, Nat.le_of_ble_eq_true rfl⟩) rfl rfl (Nat.le_of_ble_eq_true rfl) dX7_proxy_74 ?_
        exact j_iret X Y (f_p1 hf) (f_p2 hf) dX7_proxy_77
      replace hf := f_fn c hf
      refine j_bipush X (v := (-9 : Int32)) (by decide) dX7_proxy_64 ?_
      refine j_goto (tgt := 77) X dX7_proxy_66 (by decide) ?_
      exact j_iret X Y (f_p1 hf) (f_p2 hf) dX7_proxy_77
    replace hf := f_f c_0 hf
    by_cases c_1 : x2 = (nI 1)
    · replace hf := f_t c_1 hf
      refine j_tin (tgt := 78) (off := 64) X dX7_proxy_14 (by rw [c_1]; decide) (by rw [c_1]; decide) (by rw [c_1]; decide) (by decide) ?_
      refine j_aload_n X 0 dX7_proxy_78 rfl rfl ?_
      refine j_get (ref := "ProxyVersions") (index := 12) (v := .ref (ad 50)) X oPV inX7_proxy_X7 rfl 0 (by decide) (List.mem_of_getElem? (i := 1) rfl) rfl rfl dX7_proxy_79 ?_
      refine j_iload_n X 1 dX7_proxy_82 rfl rfl ?_
      obtain ⟨o3, ho3, hf⟩ := f_bd hf
      refine j_callVi X oS0 rfl rfl [.int x1] (c_X5_stepsToRoot X.2.2.2.2.2.2.2 ho3) (cwV 1 X.2.2.2.2.1 gX7_proxy_X5_stepsToRoot rfl rfl rfl (by decide +kernel) ⟨Nat.le_of_ble_eq_true rfl, Nat.le_of_ble_eq_true rfl⟩) rfl rfl (Nat.le_of_ble_eq_true rfl) dX7_proxy_83 ?_
      exact j_iret X Y (f_p1 hf) (f_p2 hf) dX7_proxy_86
    replace hf := f_f c_1 hf
    by_cases c_2 : x2 = (nI 2)
    · replace hf := f_t c_2 hf
      refine j_tin (tgt := 87) (off := 73) X dX7_proxy_14 (by rw [c_2]; decide) (by rw [c_2]; decide) (by rw [c_2]; decide) (by decide) ?_
      refine j_aload_n X 0 dX7_proxy_87 rfl rfl ?_
      refine j_get (ref := "ProxyVersions") (index := 12) (v := .ref (ad 50)) X oPV inX7_proxy_X7 rfl 0 (by decide) (List.mem_of_getElem? (i := 1) rfl) rfl rfl dX7_proxy_88 ?_
      refine j_iload_n X 1 dX7_proxy_91 rfl rfl ?_
      obtain ⟨o4, ho4, hf⟩ := f_bd hf
      refine j_callVi X oS0 rfl rfl [.int x1] (c_X5_childrenOf X.2.2.2.2.2.2.2 ho4) (cwV 1 X.2.2.2.2.1 gX7_proxy_X5_childrenOf rfl rfl rfl (by decide +kernel) ⟨Nat.le_of_ble_eq_true rfl, Nat.le_of_ble_eq_true rfl⟩) rfl rfl (Nat.le_of_ble_eq_true rfl) dX7_proxy_92 ?_
      exact j_iret X Y (f_p1 hf) (f_p2 hf) dX7_proxy_95
    replace hf := f_f c_2 hf
    by_cases c_3 : x2 = (nI 3)
    · replace hf := f_t c_3 hf
      refine j_tin (tgt := 96) (off := 82) X dX7_proxy_14 (by rw [c_3]; decide) (by rw [c_3]; decide) (by rw [c_3]; decide) (by decide) ?_
      refine j_aload_n X 0 dX7_proxy_96 rfl rfl ?_
      refine j_get (ref := "ProxyVersions") (index := 12) (v := .ref (ad 50)) X oPV inX7_proxy_X7 rfl 0 (by decide) (List.mem_of_getElem? (i := 1) rfl) rfl rfl dX7_proxy_97 ?_
      refine j_iload_n X 1 dX7_proxy_100 rfl rfl ?_
      obtain ⟨o5, ho5, hf⟩ := f_bd hf
      refine j_callVi X oS0 rfl rfl [.int x1] (c_X5_knownCount X.2.2.2.2.2.2.2 ho5) (cwV 1 X.2.2.2.2.1 gX7_proxy_X5_knownCount rfl rfl rfl (by decide +kernel) ⟨Nat.le_of_ble_eq_true rfl, Nat.le_of_ble_eq_true rfl⟩) rfl rfl (Nat.le_of_ble_eq_true rfl) dX7_proxy_101 ?_
      exact j_iret X Y (f_p1 hf) (f_p2 hf) dX7_proxy_104
    replace hf := f_f c_3 hf
    by_cases c_4 : x2 = (nI 4)
    · replace hf := f_t c_4 hf
      refine j_tin (tgt := 105) (off := 91) X dX7_proxy_14 (by rw [c_4]; decide) (by rw [c_4]; decide) (by rw [c_4]; decide) (by decide) ?_
      refine j_aload_n X 0 dX7_proxy_105 rfl rfl ?_
      refine j_get (ref := "ProxyVersions") (index := 21) (v := .ref (ad 473)) X oPV inX7_proxy_X7 rfl 1 (by decide) (List.mem_of_getElem? (i := 2) rfl) rfl rfl dX7_proxy_106 ?_
      refine j_iload_n X 1 dX7_proxy_109 rfl rfl ?_
      obtain ⟨o6, ho6, hf⟩ := f_bd hf
      refine j_callVi X oCa rfl rfl [.int x1] (c_X0_servedCount X.2.2.2.2.2.2.2 ho6) (cwV 1 X.2.2.2.2.1 gX7_proxy_X0_servedCount rfl rfl rfl (by decide +kernel) ⟨Nat.le_of_ble_eq_true rfl, Nat.le_of_ble_eq_true rfl⟩) rfl rfl (Nat.le_of_ble_eq_true rfl) dX7_proxy_110 ?_
      exact j_iret X Y (f_p1 hf) (f_p2 hf) dX7_proxy_113
    replace hf := f_f c_4 hf
    by_cases c_5 : x2 = (nI 5)
    · replace hf := f_t c_5 hf
      refine j_tin (tgt := 114) (off := 100) X dX7_proxy_14 (by rw [c_5]; decide) (by rw [c_5]; decide) (by rw [c_5]; decide) (by decide) ?_
      refine j_aload_n X 0 dX7_proxy_114 rfl rfl ?_
      refine j_get (ref := "ProxyVersions") (index := 12) (v := .ref (ad 50)) X oPV inX7_proxy_X7 rfl 0 (by decide) (List.mem_of_getElem? (i := 1) rfl) rfl rfl dX7_proxy_115 ?_
      refine j_iload_n X 1 dX7_proxy_118 rfl rfl ?_
      obtain ⟨o7, ho7, hf⟩ := f_bd hf
      refine j_callVr X oS0 rfl rfl [.int x1] (c_X5_contentsOf X.2.2.2.2.2.2.2 ho7) (cwV 1 X.2.2.2.2.1 gX7_proxy_X5_contentsOf rfl rfl rfl (by decide +kernel) ⟨Nat.le_of_ble_eq_true rfl, Nat.le_of_ble_eq_true rfl⟩) rfl rfl (Nat.le_of_ble_eq_true rfl) dX7_proxy_119 ?_
      have hlo7 := ln_X5_contentsOf ho7
      obtain ⟨o8, ho8, hf⟩ := f_bd hf
      refine j_callVi X (oLn hlo7) rfl rfl [] (c_X2_length X.2.2.2.2.2.2.2 hlo7 ho8) (cwV 0 X.2.2.2.2.1 gX7_proxy_X2_length rfl rfl rfl (by decide +kernel) ⟨Nat.le_of_ble_eq_true rfl, Nat.le_of_ble_eq_true rfl⟩) rfl rfl (Nat.le_of_ble_eq_true rfl) dX7_proxy_122 ?_
      exact j_iret X Y (f_p1 hf) (f_p2 hf) dX7_proxy_125
    replace hf := f_f c_5 hf
    by_cases c_6 : x2 = (nI 6)
    · replace hf := f_t c_6 hf
      refine j_tin (tgt := 126) (off := 112) X dX7_proxy_14 (by rw [c_6]; decide) (by rw [c_6]; decide) (by rw [c_6]; decide) (by decide) ?_
      refine j_aload_n X 0 dX7_proxy_126 rfl rfl ?_
      refine j_get (ref := "ProxyVersions") (index := 12) (v := .ref (ad 50)) X oPV inX7_proxy_X7 rfl 0 (by decide) (List.mem_of_getElem? (i := 1) rfl) rfl rfl dX7_proxy_127 ?_
      refine j_iload_n X 1 dX7_proxy_130 rfl rfl ?_
      obtain ⟨o9, ho9, hf⟩ := f_bd hf
      refine j_callVi X oS0 rfl rfl [.int x1] (c_X5_vectorSize X.2.2.2.2.2.2.2 ho9) (cwV 1 X.2.2.2.2.1 gX7_proxy_X5_vectorSize rfl rfl rfl (by decide +kernel) ⟨Nat.le_of_ble_eq_true rfl, Nat.le_of_ble_eq_true rfl⟩) rfl rfl (Nat.le_of_ble_eq_true rfl) dX7_proxy_131 ?_
      exact j_iret X Y (f_p1 hf) (f_p2 hf) dX7_proxy_134
    replace hf := f_f c_6 hf
    by_cases c_7 : x2 = (nI 7)
    · replace hf := f_t c_7 hf
      refine j_tin (tgt := 135) (off := 121) X dX7_proxy_14 (by rw [c_7]; decide) (by rw [c_7]; decide) (by rw [c_7]; decide) (by decide) ?_
      refine j_aload_n X 0 dX7_proxy_135 rfl rfl ?_
      refine j_get (ref := "ProxyVersions") (index := 12) (v := .ref (ad 50)) X oPV inX7_proxy_X7 rfl 0 (by decide) (List.mem_of_getElem? (i := 1) rfl) rfl rfl dX7_proxy_136 ?_
      refine j_iload_n X 1 dX7_proxy_139 rfl rfl ?_
      obtain ⟨o10, ho10, hf⟩ := f_bd hf
      refine j_callVi X oS0 rfl rfl [.int x1] (c_X5_exceptionCount X.2.2.2.2.2.2.2 ho10) (cwV 1 X.2.2.2.2.1 gX7_proxy_X5_exceptionCount rfl rfl rfl (by decide +kernel) ⟨Nat.le_of_ble_eq_true rfl, Nat.le_of_ble_eq_true rfl⟩) rfl rfl (Nat.le_of_ble_eq_true rfl) dX7_proxy_140 ?_
      exact j_iret X Y (f_p1 hf) (f_p2 hf) dX7_proxy_143
    replace hf := f_f c_7 hf
    have hsw : (x2).toInt < 0 ∨ 7 < (x2).toInt := by
      rcases Int.lt_or_le (x2).toInt 0 with h | h
      · exact Or.inl h
      rcases Int.lt_or_le 7 (x2).toInt with h2 | h2
      · exact Or.inr h2
      exfalso
      have h3 : (x2).toInt = 0 ∨ (x2).toInt = 1 ∨ (x2).toInt = 2 ∨ (x2).toInt = 3 ∨ (x2).toInt = 4 ∨ (x2).toInt = 5 ∨ (x2).toInt = 6 ∨ (x2).toInt = 7 := by omega
      rcases h3 with h3 | h3 | h3 | h3 | h3 | h3 | h3 | h3
      · exact c_0 (Int32.toInt_inj.mp (h3.trans (by decide)))
      · exact c_1 (Int32.toInt_inj.mp (h3.trans (by decide)))
      · exact c_2 (Int32.toInt_inj.mp (h3.trans (by decide)))
      · exact c_3 (Int32.toInt_inj.mp (h3.trans (by decide)))
      · exact c_4 (Int32.toInt_inj.mp (h3.trans (by decide)))
      · exact c_5 (Int32.toInt_inj.mp (h3.trans (by decide)))
      · exact c_6 (Int32.toInt_inj.mp (h3.trans (by decide)))
      · exact c_7 (Int32.toInt_inj.mp (h3.trans (by decide)))
    refine j_tout (tgt := 144) X dX7_proxy_14 hsw (by decide) ?_
    refine j_iconst X (v := (-1 : Int32)) (by decide) dX7_proxy_144 ?_
    exact j_iret X Y (f_p1 hf) (f_p2 hf) dX7_proxy_145
  replace hf := f_fn c hf
  refine j_iconst X (v := (-1 : Int32)) (by decide) dX7_proxy_11 ?_
  exact j_iret X Y (f_p1 hf) (f_p2 hf) dX7_proxy_12
abbrev rmX7_count : Room := { frames := 2, cells := 0, slots := 0, locals := 43 }
theorem inX7_count_X5 : ∀ w ∈ wsX50, w ∈ wsX7_count := fun _ h => List.mem_cons_of_mem _ (List.mem_append_left _ (List.mem_append_right _ h))
theorem inX7_count_X7 : ∀ w ∈ wsX70, w ∈ wsX7_count := fun _ h => List.mem_cons_of_mem _ (List.mem_append_left _ (List.mem_append_left _ (List.mem_append_right _ h)))
set_option maxRecDepth 100000 in
set_option maxHeartbeats 4000000 in
theorem c_X7_count (hI : Inj 490 ad) {x1 : Int32} {w : Wd} {out : Int32} (hf : m_X7_count x1 w = some out) : Met l yX7_count wsX7_count rmX7_count (va_Pc [.ref (ad 472), .int x1] (PW D (tC cI cL cS) 490 ad (cellC cI cL cS ad) w)) (QWi D 490 ad (cellC cI cL cS ad) out w) 0 0 (AW 490 ad) := by
  refine mk_met (maxL := 2) (ret := (some .int)) RX7 hI (by decide) rfl rfl (Nat.le_of_ble_eq_true rfl) rfl rfl (fun p e s m args below meth c X Y => ?_)
  unfold m_X7_count at hf
  refine j_iload_n X 1 dX7_count_0 rfl rfl ?_
  by_cases c_0 : x1 = (nI 0)
  · replace hf := f_t c_0 hf
    refine j_tin (tgt := 52) (off := 51) X dX7_count_1 (by rw [c_0]; decide) (by rw [c_0]; decide) (by rw [c_0]; decide) (by decide) ?_
    refine j_aload_n X 0 dX7_count_52 rfl rfl ?_
    refine j_get (ref := "ProxyVersions") (index := 12) (v := .ref (ad 50)) X oPV inX7_count_X7 rfl 0 (by decide) (List.mem_of_getElem? (i := 1) rfl) rfl rfl dX7_count_53 ?_
    refine j_getN (ref := "ProxyVersions$State") (index := 107) (host := "ProxyVersions") (v := .int (w 50 0)) X oS0 inX7_count_X5 rfl 0 (by decide) (List.mem_of_getElem? (i := 0) rfl) rfl rfl dX7_count_56 ?_
    exact j_iret X Y (f_s hf) rfl dX7_count_59
  replace hf := f_f c_0 hf
  by_cases c_1 : x1 = (nI 1)
  · replace hf := f_t c_1 hf
    refine j_tin (tgt := 60) (off := 59) X dX7_count_1 (by rw [c_1]; decide) (by rw [c_1]; decide) (by rw [c_1]; decide) (by decide) ?_
    refine j_aload_n X 0 dX7_count_60 rfl rfl ?_
    refine j_get (ref := "ProxyVersions") (index := 12) (v := .ref (ad 50)) X oPV inX7_count_X7 rfl 0 (by decide) (List.mem_of_getElem? (i := 1) rfl) rfl rfl dX7_count_61 ?_
    refine j_getN (ref := "ProxyVersions$State") (index := 111) (host := "ProxyVersions") (v := .int (w 50 1)) X oS0 inX7_count_X5 rfl 1 (by decide) (List.mem_of_getElem? (i := 1) rfl) rfl rfl dX7_count_64 ?_
    exact j_iret X Y (f_s hf) rfl dX7_count_67
  replace hf := f_f c_1 hf
  by_cases c_2 : x1 = (nI 2)
  · replace hf := f_t c_2 hf
    refine j_tin (tgt := 68) (off := 67) X dX7_count_1 (by rw [c_2]; decide) (by rw [c_2]; decide) (by rw [c_2]; decide) (by decide) ?_
    refine j_aload_n X 0 dX7_count_68 rfl rfl ?_
    refine j_get (ref := "ProxyVersions") (index := 12) (v := .ref (ad 50)) X oPV inX7_count_X7 rfl 0 (by decide) (List.mem_of_getElem? (i := 1) rfl) rfl rfl dX7_count_69 ?_
    refine j_getN (ref := "ProxyVersions$State") (index := 114) (host := "ProxyVersions") (v := .int (w 50 2)) X oS0 inX7_count_X5 rfl 2 (by decide) (List.mem_of_getElem? (i := 2) rfl) rfl rfl dX7_count_72 ?_
    exact j_iret X Y (f_s hf) rfl dX7_count_75
  replace hf := f_f c_2 hf
  by_cases c_3 : x1 = (nI 3)
  · replace hf := f_t c_3 hf
    refine j_tin (tgt := 76) (off := 75) X dX7_count_1 (by rw [c_3]; decide) (by rw [c_3]; decide) (by rw [c_3]; decide) (by decide) ?_
    refine j_aload_n X 0 dX7_count_76 rfl rfl ?_
    refine j_get (ref := "ProxyVersions") (index := 12) (v := .ref (ad 50)) X oPV inX7_count_X7 rfl 0 (by decide) (List.mem_of_getElem? (i := 1) rfl) rfl rfl dX7_count_77 ?_
    obtain ⟨o1, ho1, hf⟩ := f_bd hf
    refine j_callVi X oS0 rfl rfl [] (c_X5_writtenCount X.2.2.2.2.2.2.2 ho1) (cwV 0 X.2.2.2.2.1 gX7_count_X5_writtenCount rfl rfl rfl (by decide +kernel) ⟨Nat.le_of_ble_eq_true rfl, Nat.le_of_ble_eq_true rfl⟩) rfl rfl (Nat.le_of_ble_eq_true rfl) dX7_count_80 ?_
    exact j_iret X Y (f_s hf) rfl dX7_count_83
  replace hf := f_f c_3 hf
  by_cases c_4 : x1 = (nI 4)
  · replace hf := f_t c_4 hf
    refine j_tin (tgt := 84) (off := 83) X dX7_count_1 (by rw [c_4]; decide) (by rw [c_4]; decide) (by rw [c_4]; decide) (by decide) ?_
    refine j_aload_n X 0 dX7_count_84 rfl rfl ?_
    refine j_get (ref := "ProxyVersions") (index := 12) (v := .ref (ad 50)) X oPV inX7_count_X7 rfl 0 (by decide) (List.mem_of_getElem? (i := 1) rfl) rfl rfl dX7_count_85 ?_
    refine j_getN (ref := "ProxyVersions$State") (index := 120) (host := "ProxyVersions") (v := .int (w 50 3)) X oS0 inX7_count_X5 rfl 3 (by decide) (List.mem_of_getElem? (i := 3) rfl) rfl rfl dX7_count_88 ?_
    exact j_iret X Y (f_s hf) rfl dX7_count_91
  replace hf := f_f c_4 hf
  by_cases c_5 : x1 = (nI 5)
  · replace hf := f_t c_5 hf
    refine j_tin (tgt := 92) (off := 91) X dX7_count_1 (by rw [c_5]; decide) (by rw [c_5]; decide) (by rw [c_5]; decide) (by decide) ?_
    refine j_aload_n X 0 dX7_count_92 rfl rfl ?_
    refine j_get (ref := "ProxyVersions") (index := 12) (v := .ref (ad 50)) X oPV inX7_count_X7 rfl 0 (by decide) (List.mem_of_getElem? (i := 1) rfl) rfl rfl dX7_count_93 ?_
    refine j_getN (ref := "ProxyVersions$State") (index := 123) (host := "ProxyVersions") (v := .int (w 50 4)) X oS0 inX7_count_X5 rfl 4 (by decide) (List.mem_of_getElem? (i := 4) rfl) rfl rfl dX7_count_96 ?_
    exact j_iret X Y (f_s hf) rfl dX7_count_99
  replace hf := f_f c_5 hf
  by_cases c_6 : x1 = (nI 6)
  · replace hf := f_t c_6 hf
    refine j_tin (tgt := 100) (off := 99) X dX7_count_1 (by rw [c_6]; decide) (by rw [c_6]; decide) (by rw [c_6]; decide) (by decide) ?_
    refine j_aload_n X 0 dX7_count_100 rfl rfl ?_
    refine j_get (ref := "ProxyVersions") (index := 12) (v := .ref (ad 50)) X oPV inX7_count_X7 rfl 0 (by decide) (List.mem_of_getElem? (i := 1) rfl) rfl rfl dX7_count_101 ?_
    refine j_getN (ref := "ProxyVersions$State") (index := 126) (host := "ProxyVersions") (v := .int (w 50 5)) X oS0 inX7_count_X5 rfl 5 (by decide) (List.mem_of_getElem? (i := 5) rfl) rfl rfl dX7_count_104 ?_
    exact j_iret X Y (f_s hf) rfl dX7_count_107
  replace hf := f_f c_6 hf
  by_cases c_7 : x1 = (nI 7)
  · replace hf := f_t c_7 hf
    refine j_tin (tgt := 108) (off := 107) X dX7_count_1 (by rw [c_7]; decide) (by rw [c_7]; decide) (by rw [c_7]; decide) (by decide) ?_
    refine j_aload_n X 0 dX7_count_108 rfl rfl ?_
    refine j_get (ref := "ProxyVersions") (index := 12) (v := .ref (ad 50)) X oPV inX7_count_X7 rfl 0 (by decide) (List.mem_of_getElem? (i := 1) rfl) rfl rfl dX7_count_109 ?_
    refine j_getN (ref := "ProxyVersions$State") (index := 129) (host := "ProxyVersions") (v := .int (w 50 6)) X oS0 inX7_count_X5 rfl 6 (by decide) (List.mem_of_getElem? (i := 6) rfl) rfl rfl dX7_count_112 ?_
    exact j_iret X Y (f_s hf) rfl dX7_count_115
  replace hf := f_f c_7 hf
  by_cases c_8 : x1 = (nI 8)
  · replace hf := f_t c_8 hf
    refine j_tin (tgt := 116) (off := 115) X dX7_count_1 (by rw [c_8]; decide) (by rw [c_8]; decide) (by rw [c_8]; decide) (by decide) ?_
    refine j_aload_n X 0 dX7_count_116 rfl rfl ?_
    refine j_get (ref := "ProxyVersions") (index := 37) (v := .ref (ad 477)) X oPV inX7_count_X7 rfl 3 (by decide) (List.mem_of_getElem? (i := 2) rfl) rfl rfl dX7_count_117 ?_
    obtain ⟨o2, ho2, hf⟩ := f_bd hf
    refine j_callVi X oHi rfl rfl [] (c_X1_savedCount X.2.2.2.2.2.2.2 ho2) (cwV 0 X.2.2.2.2.1 gX7_count_X1_savedCount rfl rfl rfl (by decide +kernel) ⟨Nat.le_of_ble_eq_true rfl, Nat.le_of_ble_eq_true rfl⟩) rfl rfl (Nat.le_of_ble_eq_true rfl) dX7_count_120 ?_
    exact j_iret X Y (f_s hf) rfl dX7_count_123
  replace hf := f_f c_8 hf
  have hsw : (x1).toInt < 0 ∨ 8 < (x1).toInt := by
    rcases Int.lt_or_le (x1).toInt 0 with h | h
    · exact Or.inl h
    rcases Int.lt_or_le 8 (x1).toInt with h2 | h2
    · exact Or.inr h2
    exfalso
    have h3 : (x1).toInt = 0 ∨ (x1).toInt = 1 ∨ (x1).toInt = 2 ∨ (x1).toInt = 3 ∨ (x1).toInt = 4 ∨ (x1).toInt = 5 ∨ (x1).toInt = 6 ∨ (x1).toInt = 7 ∨ (x1).toInt = 8 := by omega
    rcases h3 with h3 | h3 | h3 | h3 | h3 | h3 | h3 | h3 | h3
    · exact c_0 (Int32.toInt_inj.mp (h3.trans (by decide)))
    · exact c_1 (Int32.toInt_inj.mp (h3.trans (by decide)))
    · exact c_2 (Int32.toInt_inj.mp (h3.trans (by decide)))
    · exact c_3 (Int32.toInt_inj.mp (h3.trans (by decide)))
    · exact c_4 (Int32.toInt_inj.mp (h3.trans (by decide)))
    · exact c_5 (Int32.toInt_inj.mp (h3.trans (by decide)))
    · exact c_6 (Int32.toInt_inj.mp (h3.trans (by decide)))
    · exact c_7 (Int32.toInt_inj.mp (h3.trans (by decide)))
    · exact c_8 (Int32.toInt_inj.mp (h3.trans (by decide)))
  refine j_tout (tgt := 124) X dX7_count_1 hsw (by decide) ?_
  refine j_iconst X (v := (-1 : Int32)) (by decide) dX7_count_124 ?_
  exact j_iret X Y (f_s hf) rfl dX7_count_125
abbrev rmX7_write : Room := { frames := 5, cells := 0, slots := 0, locals := 124 }
theorem inX7_write_X7 : ∀ w ∈ wsX70, w ∈ wsX7_write := fun _ h => List.mem_cons_of_mem _ (List.mem_append_left _ (List.mem_append_left _ (List.mem_append_left _ (List.mem_append_left _ (List.mem_append_left _ (List.mem_append_right _ h))))))
set_option maxRecDepth 100000 in
set_option maxHeartbeats 4000000 in
theorem c_X7_write (hI : Inj 490 ad) {x1 : Int32} {w : Wd} {out : Int32 × Wd} (hf : m_X7_write x1 w = some out) : Met l yX7_write wsX7_write rmX7_write (va_Pc [.ref (ad 472), .int x1] (PW D (tC cI cL cS) 490 ad (cellC cI cL cS ad) w)) (QWi D 490 ad (cellC cI cL cS ad) out.1 out.2) 0 0 (AW 490 ad) := by
  refine mk_met (maxL := 2) (ret := (some .int)) RX7 hI (by decide) rfl rfl (Nat.le_of_ble_eq_true rfl) rfl rfl (fun p e s m args below meth c X Y => ?_)
  unfold m_X7_write at hf
  refine j_aload_n X 0 dX7_write_0 rfl rfl ?_
  refine j_get (ref := "ProxyVersions") (index := 37) (v := .ref (ad 477)) X oPV inX7_write_X7 rfl 3 (by decide) (List.mem_of_getElem? (i := 1) rfl) rfl rfl dX7_write_1 ?_
  refine j_aload_n X 0 dX7_write_4 rfl rfl ?_
  refine j_get (ref := "ProxyVersions") (index := 12) (v := .ref (ad 50)) X oPV inX7_write_X7 rfl 0 (by decide) (List.mem_of_getElem? (i := 2) rfl) rfl rfl dX7_write_5 ?_
  obtain ⟨o1, ho1, hf⟩ := f_bd hf
  refine j_callVv X oHi rfl rfl [.ref (ad 50)] (c_X1_stage X.2.2.2.2.2.2.2 ho1) (cwV 1 X.2.2.2.2.1 gX7_write_X1_stage rfl rfl rfl (by decide +kernel) ⟨Nat.le_of_ble_eq_true rfl, Nat.le_of_ble_eq_true rfl⟩) rfl rfl (Nat.le_of_ble_eq_true rfl) dX7_write_8 ?_
  refine j_aload_n X 0 dX7_write_11 rfl rfl ?_
  refine j_aload_n X 0 dX7_write_12 rfl rfl ?_
  refine j_get (ref := "ProxyVersions") (index := 30) (v := .ref (ad 476)) X oPV inX7_write_X7 rfl 2 (by decide) (List.mem_of_getElem? (i := 3) rfl) rfl rfl dX7_write_13 ?_
  refine j_iload_n X 1 dX7_write_16 rfl rfl ?_
  obtain ⟨o2, ho2, hf⟩ := f_bd hf
  refine j_callVi X oNe rfl rfl [.int x1] (c_X3_makeWrite X.2.2.2.2.2.2.2 ho2) (cwV 1 X.2.2.2.2.1 gX7_write_X3_makeWrite rfl rfl rfl (by decide +kernel) ⟨Nat.le_of_ble_eq_true rfl, Nat.le_of_ble_eq_true rfl⟩) rfl rfl (Nat.le_of_ble_eq_true rfl) dX7_write_17 ?_
  obtain ⟨o3, ho3, hf⟩ := f_bd hf
  refine j_callVi X oPV rfl rfl [.int o2.1] (c_X7_commitIfDone X.2.2.2.2.2.2.2 ho3) (cwV 1 X.2.2.2.2.1 gX7_write_X7_commitIfDone rfl rfl rfl (by decide +kernel) ⟨Nat.le_of_ble_eq_true rfl, Nat.le_of_ble_eq_true rfl⟩) rfl rfl (Nat.le_of_ble_eq_true rfl) dX7_write_20 ?_
  exact j_iret X Y (f_p1 hf) (f_p2 hf) dX7_write_23
abbrev rmX7_cause : Room := { frames := 2, cells := 0, slots := 0, locals := 43 }
theorem inX7_cause_X7 : ∀ w ∈ wsX70, w ∈ wsX7_cause := fun _ h => List.mem_cons_of_mem _ (List.mem_append_left _ (List.mem_append_right _ h))
set_option maxRecDepth 100000 in
set_option maxHeartbeats 4000000 in
theorem c_X7_cause (hI : Inj 490 ad) {x1 : Int32} {x2 : Int32} {x3 : Int32} {w : Wd} {out : Int32} (hf : m_X7_cause x1 x2 x3 w = some out) : Met l yX7_cause wsX7_cause rmX7_cause (va_Pc [.ref (ad 472), .int x1, .int x2, .int x3] (PW D (tC cI cL cS) 490 ad (cellC cI cL cS ad) w)) (QWi D 490 ad (cellC cI cL cS ad) out w) 0 0 (AW 490 ad) := by
  refine mk_met (maxL := 4) (ret := (some .int)) RX7 hI (by decide) rfl rfl (Nat.le_of_ble_eq_true rfl) rfl rfl (fun p e s m args below meth c X Y => ?_)
  unfold m_X7_cause at hf
  refine j_iload_n X 3 dX7_cause_0 rfl rfl ?_
  obtain ⟨o1, ho1, hf⟩ := f_bd hf
  refine j_callSi X [.int x3] (c_X7_isOrigin X.2.2.2.2.2.2.2 ho1) (va_cwS 1 X.2.2.2.2.1 gX7_cause_X7_isOrigin rfl rfl rfl (by decide +kernel) ⟨Nat.le_of_ble_eq_true rfl, Nat.le_of_ble_eq_true rfl⟩) rfl rfl (Nat.le_of_ble_eq_true rfl) dX7_cause_1 ?_
  refine j_if_eq (tgt := 19) X dX7_cause_4 (by decide) (fun c => ?_) (fun c => ?_)
  · replace hf := f_t c hf
    refine j_iconst X (v := (-1 : Int32)) (by decide) dX7_cause_19 ?_
    exact j_iret X Y (f_s hf) rfl dX7_cause_20
  replace hf := f_f c hf
  refine j_aload_n X 0 dX7_cause_7 rfl rfl ?_
  refine j_get (ref := "ProxyVersions") (index := 12) (v := .ref (ad 50)) X oPV inX7_cause_X7 rfl 0 (by decide) (List.mem_of_getElem? (i := 1) rfl) rfl rfl dX7_cause_8 ?_
  refine j_iload_n X 1 dX7_cause_11 rfl rfl ?_
  refine j_iload_n X 2 dX7_cause_12 rfl rfl ?_
  obtain ⟨o2, ho2, hf⟩ := f_bd hf
  refine j_callVi X oS0 rfl rfl [.int x1, .int x2] (c_X5_wasWritten X.2.2.2.2.2.2.2 ho2) (cwV 2 X.2.2.2.2.1 gX7_cause_X5_wasWritten rfl rfl rfl (by decide +kernel) ⟨Nat.le_of_ble_eq_true rfl, Nat.le_of_ble_eq_true rfl⟩) rfl rfl (Nat.le_of_ble_eq_true rfl) dX7_cause_13 ?_
  refine j_if_ne (tgt := 21) X dX7_cause_16 (by decide) (fun c => ?_) (fun c => ?_)
  · replace hf := f_t c hf
    refine j_aload_n X 0 dX7_cause_21 rfl rfl ?_
    refine j_get (ref := "ProxyVersions") (index := 12) (v := .ref (ad 50)) X oPV inX7_cause_X7 rfl 0 (by decide) (List.mem_of_getElem? (i := 1) rfl) rfl rfl dX7_cause_22 ?_
    refine j_iload_n X 1 dX7_cause_25 rfl rfl ?_
    refine j_iload_n X 2 dX7_cause_26 rfl rfl ?_
    refine j_iload_n X 3 dX7_cause_27 rfl rfl ?_
    obtain ⟨o3, ho3, hf⟩ := f_bd hf
    refine j_callVi X oS0 rfl rfl [.int x1, .int x2, .int x3] (c_X5_causeOf X.2.2.2.2.2.2.2 ho3) (cwV 3 X.2.2.2.2.1 gX7_cause_X5_causeOf rfl rfl rfl (by decide +kernel) ⟨Nat.le_of_ble_eq_true rfl, Nat.le_of_ble_eq_true rfl⟩) rfl rfl (Nat.le_of_ble_eq_true rfl) dX7_cause_28 ?_
    exact j_iret X Y (f_s hf) rfl dX7_cause_31
  replace hf := f_fn c hf
  refine j_iconst X (v := (-1 : Int32)) (by decide) dX7_cause_19 ?_
  exact j_iret X Y (f_s hf) rfl dX7_cause_20
abbrev rmX7_deliver : Room := { frames := 5, cells := 0, slots := 0, locals := 129 }
theorem inX7_deliver_X7 : ∀ w ∈ wsX70, w ∈ wsX7_deliver := fun _ h => List.mem_cons_of_mem _ (List.mem_append_left _ (List.mem_append_left _ (List.mem_append_left _ (List.mem_append_left _ (List.mem_append_left _ (List.mem_append_right _ h))))))
set_option maxRecDepth 100000 in
set_option maxHeartbeats 4000000 in
theorem c_X7_deliver (hI : Inj 490 ad) {x1 : Int32} {x2 : Int32} {x3 : Int32} {w : Wd} {out : Int32 × Wd} (hf : m_X7_deliver x1 x2 x3 w = some out) : Met l yX7_deliver wsX7_deliver rmX7_deliver (va_Pc [.ref (ad 472), .int x1, .int x2, .int x3] (PW D (tC cI cL cS) 490 ad (cellC cI cL cS ad) w)) (QWi D 490 ad (cellC cI cL cS ad) out.1 out.2) 0 0 (AW 490 ad) := by
  refine mk_met (maxL := 4) (ret := (some .int)) RX7 hI (by decide) rfl rfl (Nat.le_of_ble_eq_true rfl) rfl rfl (fun p e s m args below meth c X Y => ?_)
  unfold m_X7_deliver at hf
  refine j_aload_n X 0 dX7_deliver_0 rfl rfl ?_
  refine j_get (ref := "ProxyVersions") (index := 37) (v := .ref (ad 477)) X oPV inX7_deliver_X7 rfl 3 (by decide) (List.mem_of_getElem? (i := 1) rfl) rfl rfl dX7_deliver_1 ?_
  refine j_aload_n X 0 dX7_deliver_4 rfl rfl ?_
  refine j_get (ref := "ProxyVersions") (index := 12) (v := .ref (ad 50)) X oPV inX7_deliver_X7 rfl 0 (by decide) (List.mem_of_getElem? (i := 2) rfl) rfl rfl dX7_deliver_5 ?_
  obtain ⟨o1, ho1, hf⟩ := f_bd hf
  refine j_callVv X oHi rfl rfl [.ref (ad 50)] (c_X1_stage X.2.2.2.2.2.2.2 ho1) (cwV 1 X.2.2.2.2.1 gX7_deliver_X1_stage rfl rfl rfl (by decide +kernel) ⟨Nat.le_of_ble_eq_true rfl, Nat.le_of_ble_eq_true rfl⟩) rfl rfl (Nat.le_of_ble_eq_true rfl) dX7_deliver_8 ?_
  refine j_aload_n X 0 dX7_deliver_11 rfl rfl ?_
  refine j_aload_n X 0 dX7_deliver_12 rfl rfl ?_
  refine j_get (ref := "ProxyVersions") (index := 30) (v := .ref (ad 476)) X oPV inX7_deliver_X7 rfl 2 (by decide) (List.mem_of_getElem? (i := 3) rfl) rfl rfl dX7_deliver_13 ?_
  refine j_iload_n X 1 dX7_deliver_16 rfl rfl ?_
  refine j_iload_n X 2 dX7_deliver_17 rfl rfl ?_
  refine j_iload_n X 3 dX7_deliver_18 rfl rfl ?_
  obtain ⟨o2, ho2, hf⟩ := f_bd hf
  refine j_callVi X oNe rfl rfl [.int x1, .int x2, .int x3] (c_X3_deliverFirst X.2.2.2.2.2.2.2 ho2) (cwV 3 X.2.2.2.2.1 gX7_deliver_X3_deliverFirst rfl rfl rfl (by decide +kernel) ⟨Nat.le_of_ble_eq_true rfl, Nat.le_of_ble_eq_true rfl⟩) rfl rfl (Nat.le_of_ble_eq_true rfl) dX7_deliver_19 ?_
  obtain ⟨o3, ho3, hf⟩ := f_bd hf
  refine j_callVi X oPV rfl rfl [.int o2.1] (c_X7_commitIfDone X.2.2.2.2.2.2.2 ho3) (cwV 1 X.2.2.2.2.1 gX7_deliver_X7_commitIfDone rfl rfl rfl (by decide +kernel) ⟨Nat.le_of_ble_eq_true rfl, Nat.le_of_ble_eq_true rfl⟩) rfl rfl (Nat.le_of_ble_eq_true rfl) dX7_deliver_22 ?_
  exact j_iret X Y (f_p1 hf) (f_p2 hf) dX7_deliver_25
abbrev rmX7_lose : Room := { frames := 4, cells := 0, slots := 0, locals := 124 }
theorem inX7_lose_X7 : ∀ w ∈ wsX70, w ∈ wsX7_lose := fun _ h => List.mem_cons_of_mem _ (List.mem_append_left _ (List.mem_append_left _ (List.mem_append_left _ (List.mem_append_left _ (List.mem_append_right _ h)))))
set_option maxRecDepth 100000 in
set_option maxHeartbeats 4000000 in
theorem c_X7_lose (hI : Inj 490 ad) {x1 : Int32} {x2 : Int32} {x3 : Int32} {w : Wd} {out : Int32 × Wd} (hf : m_X7_lose x1 x2 x3 w = some out) : Met l yX7_lose wsX7_lose rmX7_lose (va_Pc [.ref (ad 472), .int x1, .int x2, .int x3] (PW D (tC cI cL cS) 490 ad (cellC cI cL cS ad) w)) (QWi D 490 ad (cellC cI cL cS ad) out.1 out.2) 0 0 (AW 490 ad) := by
  refine mk_met (maxL := 4) (ret := (some .int)) RX7 hI (by decide) rfl rfl (Nat.le_of_ble_eq_true rfl) rfl rfl (fun p e s m args below meth c X Y => ?_)
  unfold m_X7_lose at hf
  refine j_aload_n X 0 dX7_lose_0 rfl rfl ?_
  refine j_get (ref := "ProxyVersions") (index := 37) (v := .ref (ad 477)) X oPV inX7_lose_X7 rfl 3 (by decide) (List.mem_of_getElem? (i := 1) rfl) rfl rfl dX7_lose_1 ?_
  refine j_aload_n X 0 dX7_lose_4 rfl rfl ?_
  refine j_get (ref := "ProxyVersions") (index := 12) (v := .ref (ad 50)) X oPV inX7_lose_X7 rfl 0 (by decide) (List.mem_of_getElem? (i := 2) rfl) rfl rfl dX7_lose_5 ?_
  obtain ⟨o1, ho1, hf⟩ := f_bd hf
  refine j_callVv X oHi rfl rfl [.ref (ad 50)] (c_X1_stage X.2.2.2.2.2.2.2 ho1) (cwV 1 X.2.2.2.2.1 gX7_lose_X1_stage rfl rfl rfl (by decide +kernel) ⟨Nat.le_of_ble_eq_true rfl, Nat.le_of_ble_eq_true rfl⟩) rfl rfl (Nat.le_of_ble_eq_true rfl) dX7_lose_8 ?_
  refine j_aload_n X 0 dX7_lose_11 rfl rfl ?_
  refine j_aload_n X 0 dX7_lose_12 rfl rfl ?_
  refine j_get (ref := "ProxyVersions") (index := 30) (v := .ref (ad 476)) X oPV inX7_lose_X7 rfl 2 (by decide) (List.mem_of_getElem? (i := 3) rfl) rfl rfl dX7_lose_13 ?_
  refine j_iload_n X 1 dX7_lose_16 rfl rfl ?_
  refine j_iload_n X 2 dX7_lose_17 rfl rfl ?_
  refine j_iload_n X 3 dX7_lose_18 rfl rfl ?_
  obtain ⟨o2, ho2, hf⟩ := f_bd hf
  refine j_callVi X oNe rfl rfl [.int x1, .int x2, .int x3] (c_X3_loseFirst X.2.2.2.2.2.2.2 ho2) (cwV 3 X.2.2.2.2.1 gX7_lose_X3_loseFirst rfl rfl rfl (by decide +kernel) ⟨Nat.le_of_ble_eq_true rfl, Nat.le_of_ble_eq_true rfl⟩) rfl rfl (Nat.le_of_ble_eq_true rfl) dX7_lose_19 ?_
  obtain ⟨o3, ho3, hf⟩ := f_bd hf
  refine j_callVi X oPV rfl rfl [.int o2.1] (c_X7_commitIfDone X.2.2.2.2.2.2.2 ho3) (cwV 1 X.2.2.2.2.1 gX7_lose_X7_commitIfDone rfl rfl rfl (by decide +kernel) ⟨Nat.le_of_ble_eq_true rfl, Nat.le_of_ble_eq_true rfl⟩) rfl rfl (Nat.le_of_ble_eq_true rfl) dX7_lose_22 ?_
  exact j_iret X Y (f_p1 hf) (f_p2 hf) dX7_lose_25
abbrev rmX7_queued : Room := { frames := 2, cells := 0, slots := 0, locals := 43 }
theorem inX7_queued_X7 : ∀ w ∈ wsX70, w ∈ wsX7_queued := fun _ h => List.mem_cons_of_mem _ (List.mem_append_left _ (List.mem_append_left _ (List.mem_append_right _ h)))
set_option maxRecDepth 100000 in
set_option maxHeartbeats 4000000 in
theorem c_X7_queued (hI : Inj 490 ad) {x1 : Int32} {x2 : Int32} {x3 : Int32} {w : Wd} {out : Int32} (hf : m_X7_queued x1 x2 x3 w = some out) : Met l yX7_queued wsX7_queued rmX7_queued (va_Pc [.ref (ad 472), .int x1, .int x2, .int x3] (PW D (tC cI cL cS) 490 ad (cellC cI cL cS ad) w)) (QWi D 490 ad (cellC cI cL cS ad) out w) 0 0 (AW 490 ad) := by
  refine mk_met (maxL := 5) (ret := (some .int)) RX7 hI (by decide) rfl rfl (Nat.le_of_ble_eq_true rfl) rfl rfl (fun p e s m args below meth c X Y => ?_)
  unfold m_X7_queued at hf
  refine j_aload_n X 0 dX7_queued_0 rfl rfl ?_
  refine j_get (ref := "ProxyVersions") (index := 12) (v := .ref (ad 50)) X oPV inX7_queued_X7 rfl 0 (by decide) (List.mem_of_getElem? (i := 1) rfl) rfl rfl dX7_queued_1 ?_
  refine j_iload_n X 1 dX7_queued_4 rfl rfl ?_
  refine j_iload_n X 2 dX7_queued_5 rfl rfl ?_
  obtain ⟨o1, ho1, hf⟩ := f_bd hf
  refine j_callVi X oS0 rfl rfl [.int x1, .int x2] (c_X5_hasQueue X.2.2.2.2.2.2.2 ho1) (cwV 2 X.2.2.2.2.1 gX7_queued_X5_hasQueue rfl rfl rfl (by decide +kernel) ⟨Nat.le_of_ble_eq_true rfl, Nat.le_of_ble_eq_true rfl⟩) rfl rfl (Nat.le_of_ble_eq_true rfl) dX7_queued_6 ?_
  refine j_if_eq (tgt := 17) X dX7_queued_9 (by decide) (fun c => ?_) (fun c => ?_)
  · replace hf := f_t c hf
    refine j_iconst X (v := (-1 : Int32)) (by decide) dX7_queued_17 ?_
    exact j_iret X Y (f_s hf) rfl dX7_queued_18
  replace hf := f_f c hf
  refine j_iload_n X 3 dX7_queued_12 rfl rfl ?_
  refine j_iconst X (v := (-1 : Int32)) (by decide) dX7_queued_13 ?_
  refine j_icmp_ge (tgt := 19) X dX7_queued_14 (by decide) (fun c => ?_) (fun c => ?_)
  · replace hf := f_t c hf
    refine j_aload_n X 0 dX7_queued_19 rfl rfl ?_
    refine j_get (ref := "ProxyVersions") (index := 12) (v := .ref (ad 50)) X oPV inX7_queued_X7 rfl 0 (by decide) (List.mem_of_getElem? (i := 1) rfl) rfl rfl dX7_queued_20 ?_
    refine j_iload_n X 1 dX7_queued_23 rfl rfl ?_
    refine j_iload_n X 2 dX7_queued_24 rfl rfl ?_
    obtain ⟨o2, ho2, hf⟩ := f_bd hf
    refine j_callVr X oS0 rfl rfl [.int x1, .int x2] (c_X5_queueOf X.2.2.2.2.2.2.2 ho2) (cwV 2 X.2.2.2.2.1 gX7_queued_X5_queueOf rfl rfl rfl (by decide +kernel) ⟨Nat.le_of_ble_eq_true rfl, Nat.le_of_ble_eq_true rfl⟩) rfl rfl (Nat.le_of_ble_eq_true rfl) dX7_queued_25 ?_
    have hlo2 := ln_X5_queueOf ho2
    refine j_astore (lv' := [(0, .ref (ad 472)), (1, .int x1), (2, .int x2), (3, .int x3), (4, .ref (ad o2))]) X dX7_queued_28 (by decide) rfl ?_
    refine j_iload_n X 3 dX7_queued_30 rfl rfl ?_
    refine j_iconst X (v := (-1 : Int32)) (by decide) dX7_queued_31 ?_
    refine j_icmp_ne (tgt := 41) X dX7_queued_32 (by decide) (fun c => ?_) (fun c => ?_)
    · replace hf := f_t c hf
      refine j_iload_n X 3 dX7_queued_41 rfl rfl ?_
      refine j_aload X 4 dX7_queued_42 rfl ?_
      obtain ⟨o3, ho3, hf⟩ := f_bd hf
      refine j_callVi X (oLn hlo2) rfl rfl [] (c_X2_length X.2.2.2.2.2.2.2 hlo2 ho3) (cwV 0 X.2.2.2.2.1 gX7_queued_X2_length rfl rfl rfl (by decide +kernel) ⟨Nat.le_of_ble_eq_true rfl, Nat.le_of_ble_eq_true rfl⟩) rfl rfl (Nat.le_of_ble_eq_true rfl) dX7_queued_44 ?_
      refine j_icmp_ge (tgt := 59) X dX7_queued_47 (by decide) (fun c => ?_) (fun c => ?_)
      · replace hf := f_t c hf
        refine j_bipush X (v := (-9 : Int32)) (by decide) dX7_queued_59 ?_
        exact j_iret X Y (f_s hf) rfl dX7_queued_61
      replace hf := f_f c hf
      refine j_aload X 4 dX7_queued_50 rfl ?_
      refine j_iload_n X 3 dX7_queued_52 rfl rfl ?_
      obtain ⟨o4, ho4, hf⟩ := f_bd hf
      refine j_callVi X (oLn hlo2) rfl rfl [.int x3] (c_X2_at X.2.2.2.2.2.2.2 hlo2 ho4) (cwV 1 X.2.2.2.2.1 gX7_queued_X2_at rfl rfl rfl (by decide +kernel) ⟨Nat.le_of_ble_eq_true rfl, Nat.le_of_ble_eq_true rfl⟩) rfl rfl (Nat.le_of_ble_eq_true rfl) dX7_queued_53 ?_
      refine j_goto (tgt := 61) X dX7_queued_56 (by decide) ?_
      exact j_iret X Y (f_s hf) rfl dX7_queued_61
    replace hf := f_fn c hf
    refine j_aload X 4 dX7_queued_35 rfl ?_
    obtain ⟨o5, ho5, hf⟩ := f_bd hf
    refine j_callVi X (oLn hlo2) rfl rfl [] (c_X2_length X.2.2.2.2.2.2.2 hlo2 ho5) (cwV 0 X.2.2.2.2.1 gX7_queued_X2_length rfl rfl rfl (by decide +kernel) ⟨Nat.le_of_ble_eq_true rfl, Nat.le_of_ble_eq_true rfl⟩) rfl rfl (Nat.le_of_ble_eq_true rfl) dX7_queued_37 ?_
    exact j_iret X Y (f_s hf) rfl dX7_queued_40
  replace hf := f_f c hf
  refine j_iconst X (v := (-1 : Int32)) (by decide) dX7_queued_17 ?_
  exact j_iret X Y (f_s hf) rfl dX7_queued_18
end WALK13
