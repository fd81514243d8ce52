/-! ===== the bytecode does what the model says (printed by wip/whole/tools/gen.py) ===== -/
section WALK14
variable {p : Program} {l : Launch} {e : Env} {s : State} {m : MethodId} {args : Array Value} {below : List Frame} {meth : Method} {c : Code} {D : va_G} {cI cL cS : ClassId} {ad : Nat → Nat}
abbrev rmX7_bound : Room := { frames := 1, cells := 0, slots := 0, locals := 23 }
theorem inX7_bound_X7 : ∀ w ∈ wsX70, w ∈ wsX7_bound := fun _ h => List.mem_cons_of_mem _ (List.mem_append_left _ (List.mem_append_right _ h))
set_option maxRecDepth 100000 in
set_option maxHeartbeats 4000000 in
theorem c_X7_bound (hI : Inj 490 ad) {x1 : Int32} {x2 : Int32} {w : Wd} {out : Int32} (hf : m_X7_bound x1 x2 w = some out) : Met l yX7_bound wsX7_bound rmX7_bound (va_Pc [.ref (ad 472), .int x1, .int x2] (PW D (tC cI cL cS) 490 ad (cellC cI cL cS ad) w)) (QWi D 490 ad (cellC cI cL cS ad) out w) 0 0 (AW 490 ad) := by
  refine mk_met (maxL := 3) (ret := (some .int)) RX7 hI (by decide) rfl rfl (Nat.le_of_ble_eq_true rfl) rfl rfl (fun p e s m args below meth c X Y => ?_)
  unfold m_X7_bound at hf
  refine j_aload_n X 0 dX7_bound_0 rfl rfl ?_
  refine j_get (ref := "ProxyVersions") (index := 12) (v := .ref (ad 50)) X oPV inX7_bound_X7 rfl 0 (by decide) (List.mem_of_getElem? (i := 1) rfl) rfl rfl dX7_bound_1 ?_
  refine j_iload_n X 1 dX7_bound_4 rfl rfl ?_
  obtain ⟨o1, ho1, hf⟩ := f_bd hf
  refine j_callVi X oS0 rfl rfl [.int x1] (c_X5_hasProxy X.2.2.2.2.2.2.2 ho1) (cwV 1 X.2.2.2.2.1 gX7_bound_X5_hasProxy rfl rfl rfl (by decide +kernel) ⟨Nat.le_of_ble_eq_true rfl, Nat.le_of_ble_eq_true rfl⟩) rfl rfl (Nat.le_of_ble_eq_true rfl) dX7_bound_5 ?_
  refine j_if_eq (tgt := 18) X dX7_bound_8 (by decide) (fun c => ?_) (fun c => ?_)
  · replace hf := f_t c hf
    refine j_iconst X (v := (-1 : Int32)) (by decide) dX7_bound_18 ?_
    exact j_iret X Y (f_s hf) rfl dX7_bound_19
  replace hf := f_f c hf
  refine j_iload_n X 2 dX7_bound_11 rfl rfl ?_
  obtain ⟨o2, ho2, hf⟩ := f_bd hf
  refine j_callSi X [.int x2] (c_X7_isOrigin X.2.2.2.2.2.2.2 ho2) (va_cwS 1 X.2.2.2.2.1 gX7_bound_X7_isOrigin rfl rfl rfl (by decide +kernel) ⟨Nat.le_of_ble_eq_true rfl, Nat.le_of_ble_eq_true rfl⟩) rfl rfl (Nat.le_of_ble_eq_true rfl) dX7_bound_12 ?_
  refine j_if_ne (tgt := 20) X dX7_bound_15 (by decide) (fun c => ?_) (fun c => ?_)
  · replace hf := f_t c hf
    refine j_aload_n X 0 dX7_bound_20 rfl rfl ?_
    refine j_get (ref := "ProxyVersions") (index := 12) (v := .ref (ad 50)) X oPV inX7_bound_X7 rfl 0 (by decide) (List.mem_of_getElem? (i := 1) rfl) rfl rfl dX7_bound_21 ?_
    refine j_iload_n X 1 dX7_bound_24 rfl rfl ?_
    refine j_iload_n X 2 dX7_bound_25 rfl rfl ?_
    obtain ⟨o3, ho3, hf⟩ := f_bd hf
    refine j_callVi X oS0 rfl rfl [.int x1, .int x2] (c_X5_knownOf X.2.2.2.2.2.2.2 ho3) (cwV 2 X.2.2.2.2.1 gX7_bound_X5_knownOf rfl rfl rfl (by decide +kernel) ⟨Nat.le_of_ble_eq_true rfl, Nat.le_of_ble_eq_true rfl⟩) rfl rfl (Nat.le_of_ble_eq_true rfl) dX7_bound_26 ?_
    obtain ⟨o4, ho4, hf⟩ := f_bd hf
    refine j_callSi X [.int o3] (c_X6_greatest X.2.2.2.2.2.2.2 ho4) (va_cwS 1 X.2.2.2.2.1 gX7_bound_X6_greatest rfl rfl rfl (by decide +kernel) ⟨Nat.le_of_ble_eq_true rfl, Nat.le_of_ble_eq_true rfl⟩) rfl rfl (Nat.le_of_ble_eq_true rfl) dX7_bound_29 ?_
    exact j_iret X Y (f_s hf) rfl dX7_bound_32
  replace hf := f_fn c hf
  refine j_iconst X (v := (-1 : Int32)) (by decide) dX7_bound_18 ?_
  exact j_iret X Y (f_s hf) rfl dX7_bound_19
abbrev rmX7_exception : Room := { frames := 3, cells := 0, slots := 0, locals := 60 }
theorem inX7_exception_X7 : ∀ w ∈ wsX70, w ∈ wsX7_exception := fun _ h => List.mem_cons_of_mem _ (List.mem_append_left _ (List.mem_append_right _ h))
set_option maxRecDepth 100000 in
set_option maxHeartbeats 4000000 in
theorem c_X7_exception (hI : Inj 490 ad) {x1 : Int32} {x2 : Int32} {x3 : Int32} {w : Wd} {out : Int32} (hf : m_X7_exception x1 x2 x3 w = some out) : Met l yX7_exception wsX7_exception rmX7_exception (va_Pc [.ref (ad 472), .int x1, .int x2, .int x3] (PW D (tC cI cL cS) 490 ad (cellC cI cL cS ad) w)) (QWi D 490 ad (cellC cI cL cS ad) out w) 0 0 (AW 490 ad) := by
  refine mk_met (maxL := 5) (ret := (some .int)) RX7 hI (by decide) rfl rfl (Nat.le_of_ble_eq_true rfl) rfl rfl (fun p e s m args below meth c X Y => ?_)
  unfold m_X7_exception at hf
  refine j_aload_n X 0 dX7_exception_0 rfl rfl ?_
  refine j_get (ref := "ProxyVersions") (index := 12) (v := .ref (ad 50)) X oPV inX7_exception_X7 rfl 0 (by decide) (List.mem_of_getElem? (i := 1) rfl) rfl rfl dX7_exception_1 ?_
  refine j_iload_n X 1 dX7_exception_4 rfl rfl ?_
  obtain ⟨o1, ho1, hf⟩ := f_bd hf
  refine j_callVi X oS0 rfl rfl [.int x1] (c_X5_hasProxy X.2.2.2.2.2.2.2 ho1) (cwV 1 X.2.2.2.2.1 gX7_exception_X5_hasProxy rfl rfl rfl (by decide +kernel) ⟨Nat.le_of_ble_eq_true rfl, Nat.le_of_ble_eq_true rfl⟩) rfl rfl (Nat.le_of_ble_eq_true rfl) dX7_exception_5 ?_
  refine j_if_eq (tgt := 23) X dX7_exception_8 (by decide) (fun c => ?_) (fun c => ?_)
  · replace hf := f_t c hf
    refine j_iconst X (v := (-1 : Int32)) (by decide) dX7_exception_23 ?_
    exact j_iret X Y (f_s hf) rfl dX7_exception_24
  replace hf := f_f c hf
  refine j_iload_n X 2 dX7_exception_11 rfl rfl ?_
  obtain ⟨o2, ho2, hf⟩ := f_bd hf
  refine j_callSi X [.int x2] (c_X7_isOrigin X.2.2.2.2.2.2.2 ho2) (va_cwS 1 X.2.2.2.2.1 gX7_exception_X7_isOrigin rfl rfl rfl (by decide +kernel) ⟨Nat.le_of_ble_eq_true rfl, Nat.le_of_ble_eq_true rfl⟩) rfl rfl (Nat.le_of_ble_eq_true rfl) dX7_exception_12 ?_
  refine j_if_eq (tgt := 23) X dX7_exception_15 (by decide) (fun c => ?_) (fun c => ?_)
  · replace hf := f_t c hf
    refine j_iconst X (v := (-1 : Int32)) (by decide) dX7_exception_23 ?_
    exact j_iret X Y (f_s hf) rfl dX7_exception_24
  replace hf := f_f c hf
  refine j_iload_n X 3 dX7_exception_18 rfl rfl ?_
  refine j_iconst X (v := (-1 : Int32)) (by decide) dX7_exception_19 ?_
  refine j_icmp_ge (tgt := 25) X dX7_exception_20 (by decide) (fun c => ?_) (fun c => ?_)
  · replace hf := f_t c hf
    refine j_aload_n X 0 dX7_exception_25 rfl rfl ?_
    refine j_get (ref := "ProxyVersions") (index := 12) (v := .ref (ad 50)) X oPV inX7_exception_X7 rfl 0 (by decide) (List.mem_of_getElem? (i := 1) rfl) rfl rfl dX7_exception_26 ?_
    refine j_iload_n X 1 dX7_exception_29 rfl rfl ?_
    refine j_iload_n X 2 dX7_exception_30 rfl rfl ?_
    obtain ⟨o3, ho3, hf⟩ := f_bd hf
    refine j_callVi X oS0 rfl rfl [.int x1, .int x2] (c_X5_knownOf X.2.2.2.2.2.2.2 ho3) (cwV 2 X.2.2.2.2.1 gX7_exception_X5_knownOf rfl rfl rfl (by decide +kernel) ⟨Nat.le_of_ble_eq_true rfl, Nat.le_of_ble_eq_true rfl⟩) rfl rfl (Nat.le_of_ble_eq_true rfl) dX7_exception_31 ?_
    refine j_istore (lv' := [(0, .ref (ad 472)), (1, .int x1), (2, .int x2), (3, .int x3), (4, .int o3)]) X dX7_exception_34 (by decide) rfl ?_
    refine j_iload_n X 3 dX7_exception_36 rfl rfl ?_
    refine j_iconst X (v := (-1 : Int32)) (by decide) dX7_exception_37 ?_
    refine j_icmp_ne (tgt := 47) X dX7_exception_38 (by decide) (fun c => ?_) (fun c => ?_)
    · replace hf := f_t c hf
      refine j_iload_n X 3 dX7_exception_47 rfl rfl ?_
      refine j_iload X 4 dX7_exception_48 rfl ?_
      obtain ⟨o4, ho4, hf⟩ := f_bd hf
      refine j_callSi X [.int o3] (c_X6_exceptionsIn X.2.2.2.2.2.2.2 ho4) (va_cwS 1 X.2.2.2.2.1 gX7_exception_X6_exceptionsIn rfl rfl rfl (by decide +kernel) ⟨Nat.le_of_ble_eq_true rfl, Nat.le_of_ble_eq_true rfl⟩) rfl rfl (Nat.le_of_ble_eq_true rfl) dX7_exception_50 ?_
      refine j_icmp_ge (tgt := 65) X dX7_exception_53 (by decide) (fun c => ?_) (fun c => ?_)
      · replace hf := f_t c hf
        refine j_bipush X (v := (-9 : Int32)) (by decide) dX7_exception_65 ?_
        exact j_iret X Y (f_s hf) rfl dX7_exception_67
      replace hf := f_f c hf
      refine j_iload X 4 dX7_exception_56 rfl ?_
      refine j_iload_n X 3 dX7_exception_58 rfl rfl ?_
      obtain ⟨o5, ho5, hf⟩ := f_bd hf
      refine j_callSi X [.int o3, .int x3] (c_X6_exceptionAt X.2.2.2.2.2.2.2 ho5) (va_cwS 2 X.2.2.2.2.1 gX7_exception_X6_exceptionAt rfl rfl rfl (by decide +kernel) ⟨Nat.le_of_ble_eq_true rfl, Nat.le_of_ble_eq_true rfl⟩) rfl rfl (Nat.le_of_ble_eq_true rfl) dX7_exception_59 ?_
      refine j_goto (tgt := 67) X dX7_exception_62 (by decide) ?_
      exact j_iret X Y (f_s hf) rfl dX7_exception_67
    replace hf := f_fn c hf
    refine j_iload X 4 dX7_exception_41 rfl ?_
    obtain ⟨o6, ho6, hf⟩ := f_bd hf
    refine j_callSi X [.int o3] (c_X6_rangesIn X.2.2.2.2.2.2.2 ho6) (va_cwS 1 X.2.2.2.2.1 gX7_exception_X6_rangesIn rfl rfl rfl (by decide +kernel) ⟨Nat.le_of_ble_eq_true rfl, Nat.le_of_ble_eq_true rfl⟩) rfl rfl (Nat.le_of_ble_eq_true rfl) dX7_exception_43 ?_
    exact j_iret X Y (f_s hf) rfl dX7_exception_46
  replace hf := f_f c hf
  refine j_iconst X (v := (-1 : Int32)) (by decide) dX7_exception_23 ?_
  exact j_iret X Y (f_s hf) rfl dX7_exception_24
abbrev rmX7_served : Room := { frames := 3, cells := 0, slots := 0, locals := 73 }
theorem inX7_served_X7 : ∀ w ∈ wsX70, w ∈ wsX7_served := fun _ h => List.mem_cons_of_mem _ (List.mem_append_left _ (List.mem_append_left _ (List.mem_append_right _ h)))
set_option maxRecDepth 100000 in
set_option maxHeartbeats 4000000 in
theorem c_X7_served (hI : Inj 490 ad) {x1 : Int32} {x2 : Int32} {w : Wd} {out : Int32 × Wd} (hf : m_X7_served x1 x2 w = some out) : Met l yX7_served wsX7_served rmX7_served (va_Pc [.ref (ad 472), .int x1, .int x2] (PW D (tC cI cL cS) 490 ad (cellC cI cL cS ad) w)) (QWi D 490 ad (cellC cI cL cS ad) out.1 out.2) 0 0 (AW 490 ad) := by
  refine mk_met (maxL := 3) (ret := (some .int)) RX7 hI (by decide) rfl rfl (Nat.le_of_ble_eq_true rfl) rfl rfl (fun p e s m args below meth c X Y => ?_)
  unfold m_X7_served at hf
  refine j_aload_n X 0 dX7_served_0 rfl rfl ?_
  refine j_get (ref := "ProxyVersions") (index := 12) (v := .ref (ad 50)) X oPV inX7_served_X7 rfl 0 (by decide) (List.mem_of_getElem? (i := 1) rfl) rfl rfl dX7_served_1 ?_
  refine j_iload_n X 1 dX7_served_4 rfl rfl ?_
  obtain ⟨o1, ho1, hf⟩ := f_bd hf
  refine j_callVi X oS0 rfl rfl [.int x1] (c_X5_hasProxy X.2.2.2.2.2.2.2 ho1) (cwV 1 X.2.2.2.2.1 gX7_served_X5_hasProxy rfl rfl rfl (by decide +kernel) ⟨Nat.le_of_ble_eq_true rfl, Nat.le_of_ble_eq_true rfl⟩) rfl rfl (Nat.le_of_ble_eq_true rfl) dX7_served_5 ?_
  refine j_if_eq (tgt := 18) X dX7_served_8 (by decide) (fun c => ?_) (fun c => ?_)
  · replace hf := f_t c hf
    refine j_iconst X (v := (-1 : Int32)) (by decide) dX7_served_18 ?_
    exact j_iret X Y (f_p1 hf) (f_p2 hf) dX7_served_19
  replace hf := f_f c hf
  refine j_iload_n X 2 dX7_served_11 rfl rfl ?_
  obtain ⟨o2, ho2, hf⟩ := f_bd hf
  refine j_callSi X [.int x2] (c_X7_isOrigin X.2.2.2.2.2.2.2 ho2) (va_cwS 1 X.2.2.2.2.1 gX7_served_X7_isOrigin rfl rfl rfl (by decide +kernel) ⟨Nat.le_of_ble_eq_true rfl, Nat.le_of_ble_eq_true rfl⟩) rfl rfl (Nat.le_of_ble_eq_true rfl) dX7_served_12 ?_
  refine j_if_ne (tgt := 20) X dX7_served_15 (by decide) (fun c => ?_) (fun c => ?_)
  · replace hf := f_t c hf
    refine j_aload_n X 0 dX7_served_20 rfl rfl ?_
    refine j_get (ref := "ProxyVersions") (index := 21) (v := .ref (ad 473)) X oPV inX7_served_X7 rfl 1 (by decide) (List.mem_of_getElem? (i := 2) rfl) rfl rfl dX7_served_21 ?_
    refine j_iload_n X 1 dX7_served_24 rfl rfl ?_
    refine j_iload_n X 2 dX7_served_25 rfl rfl ?_
    obtain ⟨o3, ho3, hf⟩ := f_bd hf
    refine j_callVi X oCa rfl rfl [.int x1, .int x2] (c_X0_servedOf X.2.2.2.2.2.2.2 ho3) (cwV 2 X.2.2.2.2.1 gX7_served_X0_servedOf rfl rfl rfl (by decide +kernel) ⟨Nat.le_of_ble_eq_true rfl, Nat.le_of_ble_eq_true rfl⟩) rfl rfl (Nat.le_of_ble_eq_true rfl) dX7_served_26 ?_
    exact j_iret X Y (f_p1 hf) (f_p2 hf) dX7_served_29
  replace hf := f_fn c hf
  refine j_iconst X (v := (-1 : Int32)) (by decide) dX7_served_18 ?_
  exact j_iret X Y (f_p1 hf) (f_p2 hf) dX7_served_19
abbrev rmX7_status : Room := { frames := 3, cells := 0, slots := 0, locals := 73 }
theorem inX7_status_X7 : ∀ w ∈ wsX70, w ∈ wsX7_status := fun _ h => List.mem_cons_of_mem _ (List.mem_append_left _ (List.mem_append_left _ (List.mem_append_left _ (List.mem_append_right _ h))))
set_option maxRecDepth 100000 in
set_option maxHeartbeats 4000000 in
theorem c_X7_status (hI : Inj 490 ad) {x1 : Int32} {x2 : Int32} {x3 : Int32} {w : Wd} {out : Int32 × Wd} (hf : m_X7_status x1 x2 x3 w = some out) : Met l yX7_status wsX7_status rmX7_status (va_Pc [.ref (ad 472), .int x1, .int x2, .int x3] (PW D (tC cI cL cS) 490 ad (cellC cI cL cS ad) w)) (QWi D 490 ad (cellC cI cL cS ad) out.1 out.2) 0 0 (AW 490 ad) := by
  refine mk_met (maxL := 4) (ret := (some .int)) RX7 hI (by decide) rfl rfl (Nat.le_of_ble_eq_true rfl) rfl rfl (fun p e s m args below meth c X Y => ?_)
  unfold m_X7_status at hf
  refine j_aload_n X 0 dX7_status_0 rfl rfl ?_
  refine j_get (ref := "ProxyVersions") (index := 12) (v := .ref (ad 50)) X oPV inX7_status_X7 rfl 0 (by decide) (List.mem_of_getElem? (i := 1) rfl) rfl rfl dX7_status_1 ?_
  refine j_iload_n X 1 dX7_status_4 rfl rfl ?_
  obtain ⟨o1, ho1, hf⟩ := f_bd hf
  refine j_callVi X oS0 rfl rfl [.int x1] (c_X5_hasProxy X.2.2.2.2.2.2.2 ho1) (cwV 1 X.2.2.2.2.1 gX7_status_X5_hasProxy rfl rfl rfl (by decide +kernel) ⟨Nat.le_of_ble_eq_true rfl, Nat.le_of_ble_eq_true rfl⟩) rfl rfl (Nat.le_of_ble_eq_true rfl) dX7_status_5 ?_
  refine j_if_eq (tgt := 23) X dX7_status_8 (by decide) (fun c => ?_) (fun c => ?_)
  · replace hf := f_t c hf
    refine j_iconst X (v := (-1 : Int32)) (by decide) dX7_status_23 ?_
    exact j_iret X Y (f_p1 hf) (f_p2 hf) dX7_status_24
  replace hf := f_f c hf
  refine j_aload_n X 0 dX7_status_11 rfl rfl ?_
  refine j_get (ref := "ProxyVersions") (index := 12) (v := .ref (ad 50)) X oPV inX7_status_X7 rfl 0 (by decide) (List.mem_of_getElem? (i := 1) rfl) rfl rfl dX7_status_12 ?_
  refine j_iload_n X 2 dX7_status_15 rfl rfl ?_
  refine j_iload_n X 3 dX7_status_16 rfl rfl ?_
  obtain ⟨o2, ho2, hf⟩ := f_bd hf
  refine j_callVi X oS0 rfl rfl [.int x2, .int x3] (c_X5_wasWritten X.2.2.2.2.2.2.2 ho2) (cwV 2 X.2.2.2.2.1 gX7_status_X5_wasWritten rfl rfl rfl (by decide +kernel) ⟨Nat.le_of_ble_eq_true rfl, Nat.le_of_ble_eq_true rfl⟩) rfl rfl (Nat.le_of_ble_eq_true rfl) dX7_status_17 ?_
  refine j_if_ne (tgt := 25) X dX7_status_20 (by decide) (fun c => ?_) (fun c => ?_)
  · replace hf := f_t c hf
    refine j_aload_n X 0 dX7_status_25 rfl rfl ?_
    refine j_get (ref := "ProxyVersions") (index := 12) (v := .ref (ad 50)) X oPV inX7_status_X7 rfl 0 (by decide) (List.mem_of_getElem? (i := 1) rfl) rfl rfl dX7_status_26 ?_
    refine j_iload_n X 1 dX7_status_29 rfl rfl ?_
    refine j_iload_n X 2 dX7_status_30 rfl rfl ?_
    refine j_iload_n X 3 dX7_status_31 rfl rfl ?_
    obtain ⟨o3, ho3, hf⟩ := f_bd hf
    refine j_callVi X oS0 rfl rfl [.int x1, .int x2, .int x3] (c_X5_knows X.2.2.2.2.2.2.2 ho3) (cwV 3 X.2.2.2.2.1 gX7_status_X5_knows rfl rfl rfl (by decide +kernel) ⟨Nat.le_of_ble_eq_true rfl, Nat.le_of_ble_eq_true rfl⟩) rfl rfl (Nat.le_of_ble_eq_true rfl) dX7_status_32 ?_
    refine j_if_ne (tgt := 40) X dX7_status_35 (by decide) (fun c => ?_) (fun c => ?_)
    · replace hf := f_t c hf
      refine j_iload_n X 3 dX7_status_40 rfl rfl ?_
      refine j_aload_n X 0 dX7_status_41 rfl rfl ?_
      refine j_get (ref := "ProxyVersions") (index := 21) (v := .ref (ad 473)) X oPV inX7_status_X7 rfl 1 (by decide) (List.mem_of_getElem? (i := 2) rfl) rfl rfl dX7_status_42 ?_
      refine j_iload_n X 1 dX7_status_45 rfl rfl ?_
      refine j_iload_n X 2 dX7_status_46 rfl rfl ?_
      obtain ⟨o4, ho4, hf⟩ := f_bd hf
      refine j_callVi X oCa rfl rfl [.int x1, .int x2] (c_X0_servedOf X.2.2.2.2.2.2.2 ho4) (cwV 2 X.2.2.2.2.1 gX7_status_X0_servedOf rfl rfl rfl (by decide +kernel) ⟨Nat.le_of_ble_eq_true rfl, Nat.le_of_ble_eq_true rfl⟩) rfl rfl (Nat.le_of_ble_eq_true rfl) dX7_status_47 ?_
      refine j_icmp_le (tgt := 55) X dX7_status_50 (by decide) (fun c => ?_) (fun c => ?_)
      · replace hf := f_t c hf
        refine j_aload_n X 0 dX7_status_55 rfl rfl ?_
        refine j_get (ref := "ProxyVersions") (index := 12) (v := .ref (ad 50)) X oPV inX7_status_X7 rfl 0 (by decide) (List.mem_of_getElem? (i := 1) rfl) rfl rfl dX7_status_56 ?_
        refine j_iload_n X 1 dX7_status_59 rfl rfl ?_
        refine j_iload_n X 2 dX7_status_60 rfl rfl ?_
        refine j_iload_n X 3 dX7_status_61 rfl rfl ?_
        obtain ⟨o5, ho5, hf⟩ := f_bd hf
        refine j_callSi X [.int x2, .int x3] (c_X7_updateOf X.2.2.2.2.2.2.2 ho5) (va_cwS 2 X.2.2.2.2.1 gX7_status_X7_updateOf rfl rfl rfl (by decide +kernel) ⟨Nat.le_of_ble_eq_true rfl, Nat.le_of_ble_eq_true rfl⟩) rfl rfl (Nat.le_of_ble_eq_true rfl) dX7_status_62 ?_
        obtain ⟨o6, ho6, hf⟩ := f_bd hf
        refine j_callVi X oS0 rfl rfl [.int x1, .int o5] (c_X5_keeps X.2.2.2.2.2.2.2 ho6) (cwV 2 X.2.2.2.2.1 gX7_status_X5_keeps rfl rfl rfl (by decide +kernel) ⟨Nat.le_of_ble_eq_true rfl, Nat.le_of_ble_eq_true rfl⟩) rfl rfl (Nat.le_of_ble_eq_true rfl) dX7_status_65 ?_
        refine j_if_eq (tgt := 75) X dX7_status_68 (by decide) (fun c => ?_) (fun c => ?_)
        · replace hf := f_t c hf
          refine j_iconst X (v := (nI 2)) (by decide) dX7_status_75 ?_
          exact j_iret X Y (f_p1 hf) (f_p2 hf) dX7_status_76
        replace hf := f_f c hf
        refine j_iconst X (v := (nI 3)) (by decide) dX7_status_71 ?_
        refine j_goto (tgt := 76) X dX7_status_72 (by decide) ?_
        exact j_iret X Y (f_p1 hf) (f_p2 hf) dX7_status_76
      replace hf := f_f c hf
      refine j_iconst X (v := (nI 1)) (by decide) dX7_status_53 ?_
      exact j_iret X Y (f_p1 hf) (f_p2 hf) dX7_status_54
    replace hf := f_fn c hf
    refine j_iconst X (v := (nI 0)) (by decide) dX7_status_38 ?_
    exact j_iret X Y (f_p1 hf) (f_p2 hf) dX7_status_39
  replace hf := f_fn c hf
  refine j_iconst X (v := (-1 : Int32)) (by decide) dX7_status_23 ?_
  exact j_iret X Y (f_p1 hf) (f_p2 hf) dX7_status_24
abbrev rmX7_missing : Room := { frames := 4, cells := 0, slots := 0, locals := 101 }
theorem inX7_missing_X7 : ∀ w ∈ wsX70, w ∈ wsX7_missing := fun _ h => List.mem_cons_of_mem _ (List.mem_append_left _ (List.mem_append_left _ (List.mem_append_right _ h)))
set_option maxRecDepth 100000 in
set_option maxHeartbeats 4000000 in
theorem c_X7_missing (hI : Inj 490 ad) {x1 : Int32} {x2 : Int32} {x3 : Int32} {w : Wd} {out : Int32 × Wd} (hf : m_X7_missing x1 x2 x3 w = some out) : Met l yX7_missing wsX7_missing rmX7_missing (va_Pc [.ref (ad 472), .int x1, .int x2, .int x3] (PW D (tC cI cL cS) 490 ad (cellC cI cL cS ad) w)) (QWi D 490 ad (cellC cI cL cS ad) out.1 out.2) 0 0 (AW 490 ad) := by
  refine mk_met (maxL := 4) (ret := (some .int)) RX7 hI (by decide) rfl rfl (Nat.le_of_ble_eq_true rfl) rfl rfl (fun p e s m args below meth c X Y => ?_)
  unfold m_X7_missing at hf
  refine j_aload_n X 0 dX7_missing_0 rfl rfl ?_
  refine j_get (ref := "ProxyVersions") (index := 12) (v := .ref (ad 50)) X oPV inX7_missing_X7 rfl 0 (by decide) (List.mem_of_getElem? (i := 1) rfl) rfl rfl dX7_missing_1 ?_
  refine j_iload_n X 1 dX7_missing_4 rfl rfl ?_
  obtain ⟨o1, ho1, hf⟩ := f_bd hf
  refine j_callVi X oS0 rfl rfl [.int x1] (c_X5_hasProxy X.2.2.2.2.2.2.2 ho1) (cwV 1 X.2.2.2.2.1 gX7_missing_X5_hasProxy rfl rfl rfl (by decide +kernel) ⟨Nat.le_of_ble_eq_true rfl, Nat.le_of_ble_eq_true rfl⟩) rfl rfl (Nat.le_of_ble_eq_true rfl) dX7_missing_5 ?_
  refine j_if_eq (tgt := 23) X dX7_missing_8 (by decide) (fun c => ?_) (fun c => ?_)
  · replace hf := f_t c hf
    refine j_iconst X (v := (-1 : Int32)) (by decide) dX7_missing_23 ?_
    exact j_iret X Y (f_p1 hf) (f_p2 hf) dX7_missing_24
  replace hf := f_f c hf
  refine j_aload_n X 0 dX7_missing_11 rfl rfl ?_
  refine j_get (ref := "ProxyVersions") (index := 12) (v := .ref (ad 50)) X oPV inX7_missing_X7 rfl 0 (by decide) (List.mem_of_getElem? (i := 1) rfl) rfl rfl dX7_missing_12 ?_
  refine j_iload_n X 2 dX7_missing_15 rfl rfl ?_
  refine j_iload_n X 3 dX7_missing_16 rfl rfl ?_
  obtain ⟨o2, ho2, hf⟩ := f_bd hf
  refine j_callVi X oS0 rfl rfl [.int x2, .int x3] (c_X5_wasWritten X.2.2.2.2.2.2.2 ho2) (cwV 2 X.2.2.2.2.1 gX7_missing_X5_wasWritten rfl rfl rfl (by decide +kernel) ⟨Nat.le_of_ble_eq_true rfl, Nat.le_of_ble_eq_true rfl⟩) rfl rfl (Nat.le_of_ble_eq_true rfl) dX7_missing_17 ?_
  refine j_if_ne (tgt := 25) X dX7_missing_20 (by decide) (fun c => ?_) (fun c => ?_)
  · replace hf := f_t c hf
    refine j_aload_n X 0 dX7_missing_25 rfl rfl ?_
    refine j_get (ref := "ProxyVersions") (index := 21) (v := .ref (ad 473)) X oPV inX7_missing_X7 rfl 1 (by decide) (List.mem_of_getElem? (i := 2) rfl) rfl rfl dX7_missing_26 ?_
    refine j_iload_n X 1 dX7_missing_29 rfl rfl ?_
    refine j_iload_n X 2 dX7_missing_30 rfl rfl ?_
    refine j_iload_n X 3 dX7_missing_31 rfl rfl ?_
    obtain ⟨o3, ho3, hf⟩ := f_bd hf
    refine j_callVi X oCa rfl rfl [.int x1, .int x2, .int x3] (c_X0_countMissing X.2.2.2.2.2.2.2 ho3) (cwV 3 X.2.2.2.2.1 gX7_missing_X0_countMissing rfl rfl rfl (by decide +kernel) ⟨Nat.le_of_ble_eq_true rfl, Nat.le_of_ble_eq_true rfl⟩) rfl rfl (Nat.le_of_ble_eq_true rfl) dX7_missing_32 ?_
    exact j_iret X Y (f_p1 hf) (f_p2 hf) dX7_missing_35
  replace hf := f_fn c hf
  refine j_iconst X (v := (-1 : Int32)) (by decide) dX7_missing_23 ?_
  exact j_iret X Y (f_p1 hf) (f_p2 hf) dX7_missing_24
abbrev rmX7_kept : Room := { frames := 2, cells := 0, slots := 0, locals := 42 }
theorem inX7_kept_X7 : ∀ w ∈ wsX70, w ∈ wsX7_kept := fun _ h => List.mem_cons_of_mem _ (List.mem_append_left _ (List.mem_append_left _ (List.mem_append_right _ h)))
set_option maxRecDepth 100000 in
set_option maxHeartbeats 4000000 in
theorem c_X7_kept (hI : Inj 490 ad) {x1 : Int32} {x2 : Int32} {w : Wd} {out : Int32} (hf : m_X7_kept x1 x2 w = some out) : Met l yX7_kept wsX7_kept rmX7_kept (va_Pc [.ref (ad 472), .int x1, .int x2] (PW D (tC cI cL cS) 490 ad (cellC cI cL cS ad) w)) (QWi D 490 ad (cellC cI cL cS ad) out w) 0 0 (AW 490 ad) := by
  refine mk_met (maxL := 4) (ret := (some .int)) RX7 hI (by decide) rfl rfl (Nat.le_of_ble_eq_true rfl) rfl rfl (fun p e s m args below meth c X Y => ?_)
  unfold m_X7_kept at hf
  refine j_aload_n X 0 dX7_kept_0 rfl rfl ?_
  refine j_get (ref := "ProxyVersions") (index := 12) (v := .ref (ad 50)) X oPV inX7_kept_X7 rfl 0 (by decide) (List.mem_of_getElem? (i := 1) rfl) rfl rfl dX7_kept_1 ?_
  refine j_iload_n X 1 dX7_kept_4 rfl rfl ?_
  obtain ⟨o1, ho1, hf⟩ := f_bd hf
  refine j_callVi X oS0 rfl rfl [.int x1] (c_X5_hasProxy X.2.2.2.2.2.2.2 ho1) (cwV 1 X.2.2.2.2.1 gX7_kept_X5_hasProxy rfl rfl rfl (by decide +kernel) ⟨Nat.le_of_ble_eq_true rfl, Nat.le_of_ble_eq_true rfl⟩) rfl rfl (Nat.le_of_ble_eq_true rfl) dX7_kept_5 ?_
  refine j_if_eq (tgt := 15) X dX7_kept_8 (by decide) (fun c => ?_) (fun c => ?_)
  · replace hf := f_t c hf
    refine j_iconst X (v := (-1 : Int32)) (by decide) dX7_kept_15 ?_
    exact j_iret X Y (f_s hf) rfl dX7_kept_16
  replace hf := f_f c hf
  refine j_iload_n X 2 dX7_kept_11 rfl rfl ?_
  refine j_if_ge (tgt := 17) X dX7_kept_12 (by decide) (fun c => ?_) (fun c => ?_)
  · replace hf := f_t c hf
    refine j_aload_n X 0 dX7_kept_17 rfl rfl ?_
    refine j_get (ref := "ProxyVersions") (index := 12) (v := .ref (ad 50)) X oPV inX7_kept_X7 rfl 0 (by decide) (List.mem_of_getElem? (i := 1) rfl) rfl rfl dX7_kept_18 ?_
    refine j_iload_n X 1 dX7_kept_21 rfl rfl ?_
    obtain ⟨o2, ho2, hf⟩ := f_bd hf
    refine j_callVr X oS0 rfl rfl [.int x1] (c_X5_contentsOf X.2.2.2.2.2.2.2 ho2) (cwV 1 X.2.2.2.2.1 gX7_kept_X5_contentsOf rfl rfl rfl (by decide +kernel) ⟨Nat.le_of_ble_eq_true rfl, Nat.le_of_ble_eq_true rfl⟩) rfl rfl (Nat.le_of_ble_eq_true rfl) dX7_kept_22 ?_
    have hlo2 := ln_X5_contentsOf ho2
    refine j_astore_n (lv' := [(0, .ref (ad 472)), (1, .int x1), (2, .int x2), (3, .ref (ad o2))]) X dX7_kept_25 rfl (by decide) rfl ?_
    refine j_iload_n X 2 dX7_kept_26 rfl rfl ?_
    refine j_aload_n X 3 dX7_kept_27 rfl rfl ?_
    obtain ⟨o3, ho3, hf⟩ := f_bd hf
    refine j_callVi X (oLn hlo2) rfl rfl [] (c_X2_length X.2.2.2.2.2.2.2 hlo2 ho3) (cwV 0 X.2.2.2.2.1 gX7_kept_X2_length rfl rfl rfl (by decide +kernel) ⟨Nat.le_of_ble_eq_true rfl, Nat.le_of_ble_eq_true rfl⟩) rfl rfl (Nat.le_of_ble_eq_true rfl) dX7_kept_28 ?_
    refine j_icmp_ge (tgt := 42) X dX7_kept_31 (by decide) (fun c => ?_) (fun c => ?_)
    · replace hf := f_t c hf
      refine j_bipush X (v := (-9 : Int32)) (by decide) dX7_kept_42 ?_
      exact j_iret X Y (f_s hf) rfl dX7_kept_44
    replace hf := f_f c hf
    refine j_aload_n X 3 dX7_kept_34 rfl rfl ?_
    refine j_iload_n X 2 dX7_kept_35 rfl rfl ?_
    obtain ⟨o4, ho4, hf⟩ := f_bd hf
    refine j_callVi X (oLn hlo2) rfl rfl [.int x2] (c_X2_at X.2.2.2.2.2.2.2 hlo2 ho4) (cwV 1 X.2.2.2.2.1 gX7_kept_X2_at rfl rfl rfl (by decide +kernel) ⟨Nat.le_of_ble_eq_true rfl, Nat.le_of_ble_eq_true rfl⟩) rfl rfl (Nat.le_of_ble_eq_true rfl) dX7_kept_36 ?_
    refine j_goto (tgt := 44) X dX7_kept_39 (by decide) ?_
    exact j_iret X Y (f_s hf) rfl dX7_kept_44
  replace hf := f_f c hf
  refine j_iconst X (v := (-1 : Int32)) (by decide) dX7_kept_15 ?_
  exact j_iret X Y (f_s hf) rfl dX7_kept_16
abbrev rmX7_read : Room := { frames := 5, cells := 0, slots := 0, locals := 124 }
theorem inX7_read_X7 : ∀ w ∈ wsX70, w ∈ wsX7_read := fun _ h => List.mem_cons_of_mem _ (List.mem_append_left _ (List.mem_append_left _ (List.mem_append_left _ (List.mem_append_left _ (List.mem_append_left _ (List.mem_append_right _ h))))))
set_option maxRecDepth 100000 in
set_option maxHeartbeats 4000000 in
theorem c_X7_read (hI : Inj 490 ad) {x1 : Int32} {x2 : Int32} {x3 : Int32} {w : Wd} {out : Int32 × Wd} (hf : m_X7_read x1 x2 x3 w = some out) : Met l yX7_read wsX7_read rmX7_read (va_Pc [.ref (ad 472), .int x1, .int x2, .int x3] (PW D (tC cI cL cS) 490 ad (cellC cI cL cS ad) w)) (QWi D 490 ad (cellC cI cL cS ad) out.1 out.2) 0 0 (AW 490 ad) := by
  refine mk_met (maxL := 4) (ret := (some .int)) RX7 hI (by decide) rfl rfl (Nat.le_of_ble_eq_true rfl) rfl rfl (fun p e s m args below meth c X Y => ?_)
  unfold m_X7_read at hf
  refine j_aload_n X 0 dX7_read_0 rfl rfl ?_
  refine j_get (ref := "ProxyVersions") (index := 37) (v := .ref (ad 477)) X oPV inX7_read_X7 rfl 3 (by decide) (List.mem_of_getElem? (i := 1) rfl) rfl rfl dX7_read_1 ?_
  refine j_aload_n X 0 dX7_read_4 rfl rfl ?_
  refine j_get (ref := "ProxyVersions") (index := 12) (v := .ref (ad 50)) X oPV inX7_read_X7 rfl 0 (by decide) (List.mem_of_getElem? (i := 2) rfl) rfl rfl dX7_read_5 ?_
  obtain ⟨o1, ho1, hf⟩ := f_bd hf
  refine j_callVv X oHi rfl rfl [.ref (ad 50)] (c_X1_stage X.2.2.2.2.2.2.2 ho1) (cwV 1 X.2.2.2.2.1 gX7_read_X1_stage rfl rfl rfl (by decide +kernel) ⟨Nat.le_of_ble_eq_true rfl, Nat.le_of_ble_eq_true rfl⟩) rfl rfl (Nat.le_of_ble_eq_true rfl) dX7_read_8 ?_
  refine j_aload_n X 0 dX7_read_11 rfl rfl ?_
  refine j_aload_n X 0 dX7_read_12 rfl rfl ?_
  refine j_get (ref := "ProxyVersions") (index := 30) (v := .ref (ad 476)) X oPV inX7_read_X7 rfl 2 (by decide) (List.mem_of_getElem? (i := 3) rfl) rfl rfl dX7_read_13 ?_
  refine j_iload_n X 1 dX7_read_16 rfl rfl ?_
  refine j_iload_n X 2 dX7_read_17 rfl rfl ?_
  refine j_iload_n X 3 dX7_read_18 rfl rfl ?_
  obtain ⟨o2, ho2, hf⟩ := f_bd hf
  refine j_callVi X oNe rfl rfl [.int x1, .int x2, .int x3] (c_X3_fetchContent X.2.2.2.2.2.2.2 ho2) (cwV 3 X.2.2.2.2.1 gX7_read_X3_fetchContent rfl rfl rfl (by decide +kernel) ⟨Nat.le_of_ble_eq_true rfl, Nat.le_of_ble_eq_true rfl⟩) rfl rfl (Nat.le_of_ble_eq_true rfl) dX7_read_19 ?_
  obtain ⟨o3, ho3, hf⟩ := f_bd hf
  refine j_callVi X oPV rfl rfl [.int o2.1] (c_X7_commitIfDone X.2.2.2.2.2.2.2 ho3) (cwV 1 X.2.2.2.2.1 gX7_read_X7_commitIfDone rfl rfl rfl (by decide +kernel) ⟨Nat.le_of_ble_eq_true rfl, Nat.le_of_ble_eq_true rfl⟩) rfl rfl (Nat.le_of_ble_eq_true rfl) dX7_read_22 ?_
  exact j_iret X Y (f_p1 hf) (f_p2 hf) dX7_read_25
abbrev rmX7_ask : Room := { frames := 5, cells := 0, slots := 0, locals := 125 }
theorem inX7_ask_X7 : ∀ w ∈ wsX70, w ∈ wsX7_ask := fun _ h => List.mem_cons_of_mem _ (List.mem_append_left _ (List.mem_append_left _ (List.mem_append_left _ (List.mem_append_left _ (List.mem_append_left _ (List.mem_append_right _ h))))))
set_option maxRecDepth 100000 in
set_option maxHeartbeats 4000000 in
theorem c_X7_ask (hI : Inj 490 ad) {x1 : Int32} {w : Wd} {out : Int32 × Wd} (hf : m_X7_ask x1 w = some out) : Met l yX7_ask wsX7_ask rmX7_ask (va_Pc [.ref (ad 472), .int x1] (PW D (tC cI cL cS) 490 ad (cellC cI cL cS ad) w)) (QWi D 490 ad (cellC cI cL cS ad) out.1 out.2) 0 0 (AW 490 ad) := by
  refine mk_met (maxL := 2) (ret := (some .int)) RX7 hI (by decide) rfl rfl (Nat.le_of_ble_eq_true rfl) rfl rfl (fun p e s m args below meth c X Y => ?_)
  unfold m_X7_ask at hf
  refine j_aload_n X 0 dX7_ask_0 rfl rfl ?_
  refine j_get (ref := "ProxyVersions") (index := 37) (v := .ref (ad 477)) X oPV inX7_ask_X7 rfl 3 (by decide) (List.mem_of_getElem? (i := 1) rfl) rfl rfl dX7_ask_1 ?_
  refine j_aload_n X 0 dX7_ask_4 rfl rfl ?_
  refine j_get (ref := "ProxyVersions") (index := 12) (v := .ref (ad 50)) X oPV inX7_ask_X7 rfl 0 (by decide) (List.mem_of_getElem? (i := 2) rfl) rfl rfl dX7_ask_5 ?_
  obtain ⟨o1, ho1, hf⟩ := f_bd hf
  refine j_callVv X oHi rfl rfl [.ref (ad 50)] (c_X1_stage X.2.2.2.2.2.2.2 ho1) (cwV 1 X.2.2.2.2.1 gX7_ask_X1_stage rfl rfl rfl (by decide +kernel) ⟨Nat.le_of_ble_eq_true rfl, Nat.le_of_ble_eq_true rfl⟩) rfl rfl (Nat.le_of_ble_eq_true rfl) dX7_ask_8 ?_
  refine j_aload_n X 0 dX7_ask_11 rfl rfl ?_
  refine j_aload_n X 0 dX7_ask_12 rfl rfl ?_
  refine j_get (ref := "ProxyVersions") (index := 30) (v := .ref (ad 476)) X oPV inX7_ask_X7 rfl 2 (by decide) (List.mem_of_getElem? (i := 3) rfl) rfl rfl dX7_ask_13 ?_
  refine j_iload_n X 1 dX7_ask_16 rfl rfl ?_
  obtain ⟨o2, ho2, hf⟩ := f_bd hf
  refine j_callVi X oNe rfl rfl [.int x1] (c_X3_askUpward X.2.2.2.2.2.2.2 ho2) (cwV 1 X.2.2.2.2.1 gX7_ask_X3_askUpward rfl rfl rfl (by decide +kernel) ⟨Nat.le_of_ble_eq_true rfl, Nat.le_of_ble_eq_true rfl⟩) rfl rfl (Nat.le_of_ble_eq_true rfl) dX7_ask_17 ?_
  obtain ⟨o3, ho3, hf⟩ := f_bd hf
  refine j_callVi X oPV rfl rfl [.int o2.1] (c_X7_commitIfDone X.2.2.2.2.2.2.2 ho3) (cwV 1 X.2.2.2.2.1 gX7_ask_X7_commitIfDone rfl rfl rfl (by decide +kernel) ⟨Nat.le_of_ble_eq_true rfl, Nat.le_of_ble_eq_true rfl⟩) rfl rfl (Nat.le_of_ble_eq_true rfl) dX7_ask_20 ?_
  exact j_iret X Y (f_p1 hf) (f_p2 hf) dX7_ask_23
abbrev rmX7_covers : Room := { frames := 1, cells := 0, slots := 0, locals := 23 }
theorem inX7_covers_X7 : ∀ w ∈ wsX70, w ∈ wsX7_covers := fun _ h => List.mem_cons_of_mem _ (List.mem_append_left _ (List.mem_append_right _ h))
set_option maxRecDepth 100000 in
set_option maxHeartbeats 4000000 in
theorem t_X7_covers_L26 (X : CX p rmX7_covers s m args c cX7_covers 4 RX7 wsX7_covers D (tC cI cL cS) 490 ad) (Y : RX meth (some .int)) {x1 : Int32} {x2 : Int32} {w : Wd} {out : Int32} : ∀ (n : Nat) (x3 : Int32), m_X7_covers_L26 x1 x2 w n x3 = some out → WJ p l e rmX7_covers s m args below meth c (MQ below (QWi D 490 ad (cellC cI cL cS ad) out w) args s 0 0 (AW 490 ad)) 4 D 490 ad (cellC cI cL cS ad) w 26 [(0, .ref (ad 472)), (1, .int x1), (2, .int x2), (3, .int x3)] [] := by
  intro n
  induction n with
  | zero => intro x3 hf; exact f_n hf
  | succ n ih =>
    intro x3 hf
    rw [m_X7_covers_L26] at hf
    refine j_iload_n X 3 dX7_covers_26 rfl rfl ?_
    refine j_iconst X (v := (nI 4)) (by decide) dX7_covers_27 ?_
    refine j_icmp_ge (tgt := 63) X dX7_covers_28 (by decide) (fun c => ?_) (fun c => ?_)
    · replace hf := f_t c hf
      refine j_iconst X (v := (nI 1)) (by decide) dX7_covers_63 ?_
      exact j_iret X Y (f_s hf) rfl dX7_covers_64
    replace hf := f_f c hf
    refine j_aload_n X 0 dX7_covers_31 rfl rfl ?_
    refine j_get (ref := "ProxyVersions") (index := 12) (v := .ref (ad 50)) X oPV inX7_covers_X7 rfl 0 (by decide) (List.mem_of_getElem? (i := 1) rfl) rfl rfl dX7_covers_32 ?_
    refine j_iload_n X 2 dX7_covers_35 rfl rfl ?_
    refine j_iload_n X 3 dX7_covers_36 rfl rfl ?_
    obtain ⟨o1, ho1, hf⟩ := f_bd hf
    refine j_callVi X oS0 rfl rfl [.int x2, .int x3] (c_X5_knownOf X.2.2.2.2.2.2.2 ho1) (cwV 2 X.2.2.2.2.1 gX7_covers_X5_knownOf rfl rfl rfl (by decide +kernel) ⟨Nat.le_of_ble_eq_true rfl, Nat.le_of_ble_eq_true rfl⟩) rfl rfl (Nat.le_of_ble_eq_true rfl) dX7_covers_37 ?_
    refine j_aload_n X 0 dX7_covers_40 rfl rfl ?_
    refine j_get (ref := "ProxyVersions") (index := 12) (v := .ref (ad 50)) X oPV inX7_covers_X7 rfl 0 (by decide) (List.mem_of_getElem? (i := 1) rfl) rfl rfl dX7_covers_41 ?_
    refine j_iload_n X 1 dX7_covers_44 rfl rfl ?_
    refine j_iload_n X 3 dX7_covers_45 rfl rfl ?_
    obtain ⟨o2, ho2, hf⟩ := f_bd hf
    refine j_callVi X oS0 rfl rfl [.int x1, .int x3] (c_X5_knownOf X.2.2.2.2.2.2.2 ho2) (cwV 2 X.2.2.2.2.1 gX7_covers_X5_knownOf rfl rfl rfl (by decide +kernel) ⟨Nat.le_of_ble_eq_true rfl, Nat.le_of_ble_eq_true rfl⟩) rfl rfl (Nat.le_of_ble_eq_true rfl) dX7_covers_46 ?_
    refine j_iconst X (v := (-1 : Int32)) (by decide) dX7_covers_49 ?_
    refine j_ixor X dX7_covers_50 ?_
    refine j_iand X dX7_covers_51 ?_
    refine j_if_eq (tgt := 57) X dX7_covers_52 (by decide) (fun c => ?_) (fun c => ?_)
    · replace hf := f_t c hf
      refine j_iinc (v := (x3 + (nI 1))) (lv' := [(0, .ref (ad 472)), (1, .int x1), (2, .int x2), (3, .int (x3 + (nI 1)))]) X 3 dX7_covers_57 rfl rfl (by decide) rfl ?_
      refine j_goto (tgt := 26) X dX7_covers_60 (by decide) ?_
      exact ih _ hf
    replace hf := f_f c hf
    refine j_iconst X (v := (nI 0)) (by decide) dX7_covers_55 ?_
    exact j_iret X Y (f_s hf) rfl dX7_covers_56
set_option maxRecDepth 100000 in
set_option maxHeartbeats 4000000 in
theorem c_X7_covers (hI : Inj 490 ad) {x1 : Int32} {x2 : Int32} {w : Wd} {out : Int32} (hf : m_X7_covers x1 x2 w = some out) : Met l yX7_covers wsX7_covers rmX7_covers (va_Pc [.ref (ad 472), .int x1, .int x2] (PW D (tC cI cL cS) 490 ad (cellC cI cL cS ad) w)) (QWi D 490 ad (cellC cI cL cS ad) out w) 0 0 (AW 490 ad) := by
  refine mk_met (maxL := 4) (ret := (some .int)) RX7 hI (by decide) rfl rfl (Nat.le_of_ble_eq_true rfl) rfl rfl (fun p e s m args below meth c X Y => ?_)
  unfold m_X7_covers at hf
  refine j_aload_n X 0 dX7_covers_0 rfl rfl ?_
  refine j_get (ref := "ProxyVersions") (index := 12) (v := .ref (ad 50)) X oPV inX7_covers_X7 rfl 0 (by decide) (List.mem_of_getElem? (i := 1) rfl) rfl rfl dX7_covers_1 ?_
  refine j_iload_n X 1 dX7_covers_4 rfl rfl ?_
  obtain ⟨o1, ho1, hf⟩ := f_bd hf
  refine j_callVi X oS0 rfl rfl [.int x1] (c_X5_hasProxy X.2.2.2.2.2.2.2 ho1) (cwV 1 X.2.2.2.2.1 gX7_covers_X5_hasProxy rfl rfl rfl (by decide +kernel) ⟨Nat.le_of_ble_eq_true rfl, Nat.le_of_ble_eq_true rfl⟩) rfl rfl (Nat.le_of_ble_eq_true rfl) dX7_covers_5 ?_
  refine j_if_eq (tgt := 22) X dX7_covers_8 (by decide) (fun c => ?_) (fun c => ?_)
  · replace hf := f_t c hf
    refine j_iconst X (v := (-1 : Int32)) (by decide) dX7_covers_22 ?_
    exact j_iret X Y (f_s hf) rfl dX7_covers_23
  replace hf := f_f c hf
  refine j_aload_n X 0 dX7_covers_11 rfl rfl ?_
  refine j_get (ref := "ProxyVersions") (index := 12) (v := .ref (ad 50)) X oPV inX7_covers_X7 rfl 0 (by decide) (List.mem_of_getElem? (i := 1) rfl) rfl rfl dX7_covers_12 ?_
  refine j_iload_n X 2 dX7_covers_15 rfl rfl ?_
  obtain ⟨o2, ho2, hf⟩ := f_bd hf
  refine j_callVi X oS0 rfl rfl [.int x2] (c_X5_hasProxy X.2.2.2.2.2.2.2 ho2) (cwV 1 X.2.2.2.2.1 gX7_covers_X5_hasProxy rfl rfl rfl (by decide +kernel) ⟨Nat.le_of_ble_eq_true rfl, Nat.le_of_ble_eq_true rfl⟩) rfl rfl (Nat.le_of_ble_eq_true rfl) dX7_covers_16 ?_
  refine j_if_ne (tgt := 24) X dX7_covers_19 (by decide) (fun c => ?_) (fun c => ?_)
  · replace hf := f_t c hf
    refine j_iconst X (v := (nI 0)) (by decide) dX7_covers_24 ?_
    refine j_istore_n (lv' := [(0, .ref (ad 472)), (1, .int x1), (2, .int x2), (3, .int (nI 0))]) X dX7_covers_25 rfl (by decide) rfl ?_
    refine t_X7_covers_L26 X Y _ _ hf
  replace hf := f_fn c hf
  refine j_iconst X (v := (-1 : Int32)) (by decide) dX7_covers_22 ?_
  exact j_iret X Y (f_s hf) rfl dX7_covers_23
abbrev rmX7_upToDate : Room := { frames := 3, cells := 0, slots := 0, locals := 74 }
theorem inX7_upToDate_X5 : ∀ w ∈ wsX50, w ∈ wsX7_upToDate := fun _ h => List.mem_cons_of_mem _ (List.mem_append_left _ (List.mem_append_right _ h))
theorem inX7_upToDate_X7 : ∀ w ∈ wsX70, w ∈ wsX7_upToDate := fun _ h => List.mem_cons_of_mem _ (List.mem_append_left _ (List.mem_append_left _ (List.mem_append_right _ h)))
set_option maxRecDepth 100000 in
set_option maxHeartbeats 4000000 in
theorem t_X7_upToDate_j38 (X : CX p rmX7_upToDate s m args c cX7_upToDate 4 RX7 wsX7_upToDate D (tC cI cL cS) 490 ad) (Y : RX meth (some .int)) {x1 : Int32} {x2 : Int32} {x3 : Int32} {w : Wd} {kc : Int32 → Int32 → Wd → Option (Int32 × Wd)} {out : Int32 × Wd} (hf : m_X7_upToDate_j38 x1 x2 x3 w kc = some out) (hk_kc : ∀ (y2 : Int32) (y3 : Int32) (v : Wd), kc y2 y3 v = some out → WJ p l e rmX7_upToDate s m args below meth c (MQ below (QWi D 490 ad (cellC cI cL cS ad) out.1 out.2) args s 0 0 (AW 490 ad)) 4 D 490 ad (cellC cI cL cS ad) v 12 [(0, .ref (ad 472)), (1, .int x1), (2, .int y2), (3, .int y3)] []) : WJ p l e rmX7_upToDate s m args below meth c (MQ below (QWi D 490 ad (cellC cI cL cS ad) out.1 out.2) args s 0 0 (AW 490 ad)) 4 D 490 ad (cellC cI cL cS ad) w 38 [(0, .ref (ad 472)), (1, .int x1), (2, .int x2), (3, .int x3)] [] := by
  unfold m_X7_upToDate_j38 at hf
  refine j_iinc (v := (x3 + (nI 1))) (lv' := [(0, .ref (ad 472)), (1, .int x1), (2, .int x2), (3, .int (x3 + (nI 1)))]) X 3 dX7_upToDate_38 rfl rfl (by decide) rfl ?_
  refine j_goto (tgt := 12) X dX7_upToDate_41 (by decide) ?_
  exact hk_kc _ _ _ hf
set_option maxRecDepth 100000 in
set_option maxHeartbeats 4000000 in
theorem t_X7_upToDate_L12 (X : CX p rmX7_upToDate s m args c cX7_upToDate 4 RX7 wsX7_upToDate D (tC cI cL cS) 490 ad) (Y : RX meth (some .int)) {x1 : Int32} {out : Int32 × Wd} : ∀ (n : Nat) (x2 : Int32) (x3 : Int32) (w : Wd), m_X7_upToDate_L12 x1 n x2 x3 w = some out → WJ p l e rmX7_upToDate s m args below meth c (MQ below (QWi D 490 ad (cellC cI cL cS ad) out.1 out.2) args s 0 0 (AW 490 ad)) 4 D 490 ad (cellC cI cL cS ad) w 12 [(0, .ref (ad 472)), (1, .int x1), (2, .int x2), (3, .int x3)] [] := by
  intro n
  induction n with
  | zero => intro x2 x3 w hf; exact f_n hf
  | succ n ih =>
    intro x2 x3 w hf
    rw [m_X7_upToDate_L12] at hf
    refine j_iload_n X 3 dX7_upToDate_12 rfl rfl ?_
    refine j_aload_n X 0 dX7_upToDate_13 rfl rfl ?_
    refine j_get (ref := "ProxyVersions") (index := 12) (v := .ref (ad 50)) X oPV inX7_upToDate_X7 rfl 0 (by decide) (List.mem_of_getElem? (i := 1) rfl) rfl rfl dX7_upToDate_14 ?_
    refine j_getN (ref := "ProxyVersions$State") (index := 107) (host := "ProxyVersions") (v := .int (w 50 0)) X oS0 inX7_upToDate_X5 rfl 0 (by decide) (List.mem_of_getElem? (i := 0) rfl) rfl rfl dX7_upToDate_17 ?_
    refine j_icmp_ge (tgt := 44) X dX7_upToDate_20 (by decide) (fun c => ?_) (fun c => ?_)
    · replace hf := f_t c hf
      refine j_iload_n X 2 dX7_upToDate_44 rfl rfl ?_
      exact j_iret X Y (f_p1 hf) (f_p2 hf) dX7_upToDate_45
    replace hf := f_f c hf
    refine j_aload_n X 0 dX7_upToDate_23 rfl rfl ?_
    refine j_get (ref := "ProxyVersions") (index := 21) (v := .ref (ad 473)) X oPV inX7_upToDate_X7 rfl 1 (by decide) (List.mem_of_getElem? (i := 2) rfl) rfl rfl dX7_upToDate_24 ?_
    refine j_iload_n X 3 dX7_upToDate_27 rfl rfl ?_
    obtain ⟨o1, ho1, hf⟩ := f_bd hf
    refine j_callVi X oCa rfl rfl [.int x3] (c_X0_servedCount X.2.2.2.2.2.2.2 ho1) (cwV 1 X.2.2.2.2.1 gX7_upToDate_X0_servedCount rfl rfl rfl (by decide +kernel) ⟨Nat.le_of_ble_eq_true rfl, Nat.le_of_ble_eq_true rfl⟩) rfl rfl (Nat.le_of_ble_eq_true rfl) dX7_upToDate_28 ?_
    refine j_iload_n X 1 dX7_upToDate_31 rfl rfl ?_
    refine j_icmp_ne (tgt := 38) X dX7_upToDate_32 (by decide) (fun c => ?_) (fun c => ?_)
    · replace hf := f_t c hf
      exact t_X7_upToDate_j38 X Y hf ih
    replace hf := f_fn c hf
    refine j_iinc (v := (x2 + (nI 1))) (lv' := [(0, .ref (ad 472)), (1, .int x1), (2, .int (x2 + (nI 1))), (3, .int x3)]) X 2 dX7_upToDate_35 rfl rfl (by decide) rfl ?_
    exact t_X7_upToDate_j38 X Y hf ih
set_option maxRecDepth 100000 in
set_option maxHeartbeats 4000000 in
theorem c_X7_upToDate (hI : Inj 490 ad) {w : Wd} {out : Int32 × Wd} (hf : m_X7_upToDate w = some out) : Met l yX7_upToDate wsX7_upToDate rmX7_upToDate (va_Pc [.ref (ad 472)] (PW D (tC cI cL cS) 490 ad (cellC cI cL cS ad) w)) (QWi D 490 ad (cellC cI cL cS ad) out.1 out.2) 0 0 (AW 490 ad) := by
  refine mk_met (maxL := 4) (ret := (some .int)) RX7 hI (by decide) rfl rfl (Nat.le_of_ble_eq_true rfl) rfl rfl (fun p e s m args below meth c X Y => ?_)
  unfold m_X7_upToDate at hf
  refine j_aload_n X 0 dX7_upToDate_0 rfl rfl ?_
  refine j_get (ref := "ProxyVersions") (index := 12) (v := .ref (ad 50)) X oPV inX7_upToDate_X7 rfl 0 (by decide) (List.mem_of_getElem? (i := 1) rfl) rfl rfl dX7_upToDate_1 ?_
  obtain ⟨o1, ho1, hf⟩ := f_bd hf
  refine j_callVi X oS0 rfl rfl [] (c_X5_writtenCount X.2.2.2.2.2.2.2 ho1) (cwV 0 X.2.2.2.2.1 gX7_upToDate_X5_writtenCount rfl rfl rfl (by decide +kernel) ⟨Nat.le_of_ble_eq_true rfl, Nat.le_of_ble_eq_true rfl⟩) rfl rfl (Nat.le_of_ble_eq_true rfl) dX7_upToDate_4 ?_
  refine j_istore_n (lv' := [(0, .ref (ad 472)), (1, .int o1)]) X dX7_upToDate_7 rfl (by decide) rfl ?_
  refine j_iconst X (v := (nI 0)) (by decide) dX7_upToDate_8 ?_
  refine j_istore_n (lv' := [(0, .ref (ad 472)), (1, .int o1), (2, .int (nI 0))]) X dX7_upToDate_9 rfl (by decide) rfl ?_
  refine j_iconst X (v := (nI 0)) (by decide) dX7_upToDate_10 ?_
  refine j_istore_n (lv' := [(0, .ref (ad 472)), (1, .int o1), (2, .int (nI 0)), (3, .int (nI 0))]) X dX7_upToDate_11 rfl (by decide) rfl ?_
  refine t_X7_upToDate_L12 X Y _ _ _ _ hf
abbrev rmX7_appendCharacter : Room := { frames := 1, cells := 0, slots := 0, locals := 21 }
theorem inX7_appendCharacter_X7 : ∀ w ∈ wsX70, w ∈ wsX7_appendCharacter := fun _ h => List.mem_cons_of_mem _ (List.mem_append_left _ (List.mem_append_right _ h))
set_option maxRecDepth 100000 in
set_option maxHeartbeats 4000000 in
theorem c_X7_appendCharacter (hI : Inj 490 ad) {x1 : Int32} {w : Wd} {out : Int32 × Wd} (hf : m_X7_appendCharacter x1 w = some out) : Met l yX7_appendCharacter wsX7_appendCharacter rmX7_appendCharacter (va_Pc [.ref (ad 472), .int x1] (PW D (tC cI cL cS) 490 ad (cellC cI cL cS ad) w)) (QWi D 490 ad (cellC cI cL cS ad) out.1 out.2) 0 0 (AW 490 ad) := by
  refine mk_met (maxL := 2) (ret := (some .int)) RX7 hI (by decide) rfl rfl (Nat.le_of_ble_eq_true rfl) rfl rfl (fun p e s m args below meth c X Y => ?_)
  unfold m_X7_appendCharacter at hf
  refine j_iload_n X 1 dX7_appendCharacter_0 rfl rfl ?_
  refine j_if_lt (tgt := 11) X dX7_appendCharacter_1 (by decide) (fun c => ?_) (fun c => ?_)
  · replace hf := f_t c hf
    refine j_iconst X (v := (-1 : Int32)) (by decide) dX7_appendCharacter_11 ?_
    exact j_iret X Y (f_p1 hf) (f_p2 hf) dX7_appendCharacter_12
  replace hf := f_f c hf
  refine j_iload_n X 1 dX7_appendCharacter_4 rfl rfl ?_
  refine j_sipush X (v := (nI 255)) (by decide) dX7_appendCharacter_5 ?_
  refine j_icmp_le (tgt := 13) X dX7_appendCharacter_8 (by decide) (fun c => ?_) (fun c => ?_)
  · replace hf := f_t c hf
    refine j_aload_n X 0 dX7_appendCharacter_13 rfl rfl ?_
    refine j_get (ref := "ProxyVersions") (index := 46) (v := .ref (ad 482)) X oPV inX7_appendCharacter_X7 rfl 4 (by decide) (List.mem_of_getElem? (i := 1) rfl) rfl rfl dX7_appendCharacter_14 ?_
    refine j_iload_n X 1 dX7_appendCharacter_17 rfl rfl ?_
    obtain ⟨o1, ho1, hf⟩ := f_bd hf
    refine j_callVi X (oLn ln482) rfl rfl [.int x1] (c_X2_append X.2.2.2.2.2.2.2 ln482 ho1) (cwV 1 X.2.2.2.2.1 gX7_appendCharacter_X2_append rfl rfl rfl (by decide +kernel) ⟨Nat.le_of_ble_eq_true rfl, Nat.le_of_ble_eq_true rfl⟩) rfl rfl (Nat.le_of_ble_eq_true rfl) dX7_appendCharacter_18 ?_
    refine j_if_eq (tgt := 34) X dX7_appendCharacter_21 (by decide) (fun c => ?_) (fun c => ?_)
    · replace hf := f_t c hf
      refine j_bipush X (v := (-3 : Int32)) (by decide) dX7_appendCharacter_34 ?_
      exact j_iret X Y (f_p1 hf) (f_p2 hf) dX7_appendCharacter_36
    replace hf := f_f c hf
    refine j_aload_n X 0 dX7_appendCharacter_24 rfl rfl ?_
    refine j_get (ref := "ProxyVersions") (index := 46) (v := .ref (ad 482)) X oPV inX7_appendCharacter_X7 rfl 4 (by decide) (List.mem_of_getElem? (i := 1) rfl) rfl rfl dX7_appendCharacter_25 ?_
    obtain ⟨o2, ho2, hf⟩ := f_bd hf
    refine j_callVi X (oLn ln482) rfl rfl [] (c_X2_length X.2.2.2.2.2.2.2 ln482 ho2) (cwV 0 X.2.2.2.2.1 gX7_appendCharacter_X2_length rfl rfl rfl (by decide +kernel) ⟨Nat.le_of_ble_eq_true rfl, Nat.le_of_ble_eq_true rfl⟩) rfl rfl (Nat.le_of_ble_eq_true rfl) dX7_appendCharacter_28 ?_
    refine j_goto (tgt := 36) X dX7_appendCharacter_31 (by decide) ?_
    exact j_iret X Y (f_p1 hf) (f_p2 hf) dX7_appendCharacter_36
  replace hf := f_f c hf
  refine j_iconst X (v := (-1 : Int32)) (by decide) dX7_appendCharacter_11 ?_
  exact j_iret X Y (f_p1 hf) (f_p2 hf) dX7_appendCharacter_12
abbrev rmX7_clearText : Room := { frames := 1, cells := 0, slots := 0, locals := 20 }
theorem inX7_clearText_X7 : ∀ w ∈ wsX70, w ∈ wsX7_clearText := fun _ h => List.mem_cons_of_mem _ (List.mem_append_left _ (List.mem_append_right _ h))
set_option maxRecDepth 100000 in
set_option maxHeartbeats 4000000 in
theorem c_X7_clearText (hI : Inj 490 ad) {w : Wd} {out : Int32 × Wd} (hf : m_X7_clearText w = some out) : Met l yX7_clearText wsX7_clearText rmX7_clearText (va_Pc [.ref (ad 472)] (PW D (tC cI cL cS) 490 ad (cellC cI cL cS ad) w)) (QWi D 490 ad (cellC cI cL cS ad) out.1 out.2) 0 0 (AW 490 ad) := by
  refine mk_met (maxL := 2) (ret := (some .int)) RX7 hI (by decide) rfl rfl (Nat.le_of_ble_eq_true rfl) rfl rfl (fun p e s m args below meth c X Y => ?_)
  unfold m_X7_clearText at hf
  refine j_aload_n X 0 dX7_clearText_0 rfl rfl ?_
  refine j_get (ref := "ProxyVersions") (index := 46) (v := .ref (ad 482)) X oPV inX7_clearText_X7 rfl 4 (by decide) (List.mem_of_getElem? (i := 1) rfl) rfl rfl dX7_clearText_1 ?_
  obtain ⟨o1, ho1, hf⟩ := f_bd hf
  refine j_callVi X (oLn ln482) rfl rfl [] (c_X2_length X.2.2.2.2.2.2.2 ln482 ho1) (cwV 0 X.2.2.2.2.1 gX7_clearText_X2_length rfl rfl rfl (by decide +kernel) ⟨Nat.le_of_ble_eq_true rfl, Nat.le_of_ble_eq_true rfl⟩) rfl rfl (Nat.le_of_ble_eq_true rfl) dX7_clearText_4 ?_
  refine j_istore_n (lv' := [(0, .ref (ad 472)), (1, .int o1)]) X dX7_clearText_7 rfl (by decide) rfl ?_
  refine j_aload_n X 0 dX7_clearText_8 rfl rfl ?_
  refine j_get (ref := "ProxyVersions") (index := 46) (v := .ref (ad 482)) X oPV inX7_clearText_X7 rfl 4 (by decide) (List.mem_of_getElem? (i := 1) rfl) rfl rfl dX7_clearText_9 ?_
  obtain ⟨o2, ho2, hf⟩ := f_bd hf
  refine j_callVv X (oLn ln482) rfl rfl [] (c_X2_clear X.2.2.2.2.2.2.2 ln482 ho2) (cwV 0 X.2.2.2.2.1 gX7_clearText_X2_clear rfl rfl rfl (by decide +kernel) ⟨Nat.le_of_ble_eq_true rfl, Nat.le_of_ble_eq_true rfl⟩) rfl rfl (Nat.le_of_ble_eq_true rfl) dX7_clearText_12 ?_
  refine j_iload_n X 1 dX7_clearText_15 rfl rfl ?_
  exact j_iret X Y (f_p1 hf) (f_p2 hf) dX7_clearText_16
abbrev rmX7_runCommand : Room := { frames := 5, cells := 0, slots := 0, locals := 129 }
theorem inX7_runCommand_X7 : ∀ w ∈ wsX70, w ∈ wsX7_runCommand := fun _ h => List.mem_cons_of_mem _ (List.mem_append_left _ (List.mem_append_left _ (List.mem_append_left _ (List.mem_append_left _ (List.mem_append_right _ h)))))
set_option maxRecDepth 100000 in
set_option maxHeartbeats 4000000 in
theorem c_X7_runCommand (hI : Inj 490 ad) {x1 : Int32} {x2 : Int32} {x3 : Int32} {w : Wd} {out : Int32 × Wd} (hf : m_X7_runCommand x1 x2 x3 w = some out) : Met l yX7_runCommand wsX7_runCommand rmX7_runCommand (va_Pc [.ref (ad 472), .int x1, .int x2, .int x3] (PW D (tC cI cL cS) 490 ad (cellC cI cL cS ad) w)) (QWi D 490 ad (cellC cI cL cS ad) out.1 out.2) 0 0 (AW 490 ad) := by
  refine mk_met (maxL := 4) (ret := (some .int)) RX7 hI (by decide) rfl rfl (Nat.le_of_ble_eq_true rfl) rfl rfl (fun p e s m args below meth c X Y => ?_)
  unfold m_X7_runCommand at hf
  refine j_iload_n X 1 dX7_runCommand_0 rfl rfl ?_
  by_cases c_97 : x1 = (nI 97)
  · replace hf := f_t c_97 hf
    refine j_look (tgt := 113) (off := 112) X dX7_runCommand_1 (by decide) (by rw [c_97]; decide) (by decide) ?_
    refine j_aload_n X 0 dX7_runCommand_113 rfl rfl ?_
    refine j_get (ref := "ProxyVersions") (index := 30) (v := .ref (ad 476)) X oPV inX7_runCommand_X7 rfl 2 (by decide) (List.mem_of_getElem? (i := 1) rfl) rfl rfl dX7_runCommand_114 ?_
    refine j_iload_n X 2 dX7_runCommand_117 rfl rfl ?_
    obtain ⟨o1, ho1, hf⟩ := f_bd hf
    refine j_callVi X oNe rfl rfl [.int x2] (c_X3_askUpward X.2.2.2.2.2.2.2 ho1) (cwV 1 X.2.2.2.2.1 gX7_runCommand_X3_askUpward rfl rfl rfl (by decide +kernel) ⟨Nat.le_of_ble_eq_true rfl, Nat.le_of_ble_eq_true rfl⟩) rfl rfl (Nat.le_of_ble_eq_true rfl) dX7_runCommand_118 ?_
    exact j_iret X Y (f_p1 hf) (f_p2 hf) dX7_runCommand_121
  replace hf := f_f c_97 hf
  by_cases c_100 : x1 = (nI 100)
  · replace hf := f_t c_100 hf
    refine j_look (tgt := 80) (off := 79) X dX7_runCommand_1 (by decide) (by rw [c_100]; decide) (by decide) ?_
    refine j_aload_n X 0 dX7_runCommand_80 rfl rfl ?_
    refine j_get (ref := "ProxyVersions") (index := 30) (v := .ref (ad 476)) X oPV inX7_runCommand_X7 rfl 2 (by decide) (List.mem_of_getElem? (i := 1) rfl) rfl rfl dX7_runCommand_81 ?_
    refine j_iload_n X 2 dX7_runCommand_84 rfl rfl ?_
    refine j_iconst X (v := (nI 1)) (by decide) dX7_runCommand_85 ?_
    refine j_iload_n X 3 dX7_runCommand_86 rfl rfl ?_
    obtain ⟨o2, ho2, hf⟩ := f_bd hf
    refine j_callVi X oNe rfl rfl [.int x2, .int (nI 1), .int x3] (c_X3_deliverFirst X.2.2.2.2.2.2.2 ho2) (cwV 3 X.2.2.2.2.1 gX7_runCommand_X3_deliverFirst rfl rfl rfl (by decide +kernel) ⟨Nat.le_of_ble_eq_true rfl, Nat.le_of_ble_eq_true rfl⟩) rfl rfl (Nat.le_of_ble_eq_true rfl) dX7_runCommand_87 ?_
    exact j_iret X Y (f_p1 hf) (f_p2 hf) dX7_runCommand_90
  replace hf := f_f c_100 hf
  by_cases c_117 : x1 = (nI 117)
  · replace hf := f_t c_117 hf
    refine j_look (tgt := 69) (off := 68) X dX7_runCommand_1 (by decide) (by rw [c_117]; decide) (by decide) ?_
    refine j_aload_n X 0 dX7_runCommand_69 rfl rfl ?_
    refine j_get (ref := "ProxyVersions") (index := 30) (v := .ref (ad 476)) X oPV inX7_runCommand_X7 rfl 2 (by decide) (List.mem_of_getElem? (i := 1) rfl) rfl rfl dX7_runCommand_70 ?_
    refine j_iload_n X 2 dX7_runCommand_73 rfl rfl ?_
    refine j_iconst X (v := (nI 0)) (by decide) dX7_runCommand_74 ?_
    refine j_iload_n X 3 dX7_runCommand_75 rfl rfl ?_
    obtain ⟨o3, ho3, hf⟩ := f_bd hf
    refine j_callVi X oNe rfl rfl [.int x2, .int (nI 0), .int x3] (c_X3_deliverFirst X.2.2.2.2.2.2.2 ho3) (cwV 3 X.2.2.2.2.1 gX7_runCommand_X3_deliverFirst rfl rfl rfl (by decide +kernel) ⟨Nat.le_of_ble_eq_true rfl, Nat.le_of_ble_eq_true rfl⟩) rfl rfl (Nat.le_of_ble_eq_true rfl) dX7_runCommand_76 ?_
    exact j_iret X Y (f_p1 hf) (f_p2 hf) dX7_runCommand_79
  replace hf := f_f c_117 hf
  by_cases c_119 : x1 = (nI 119)
  · replace hf := f_t c_119 hf
    refine j_look (tgt := 60) (off := 59) X dX7_runCommand_1 (by decide) (by rw [c_119]; decide) (by decide) ?_
    refine j_aload_n X 0 dX7_runCommand_60 rfl rfl ?_
    refine j_get (ref := "ProxyVersions") (index := 30) (v := .ref (ad 476)) X oPV inX7_runCommand_X7 rfl 2 (by decide) (List.mem_of_getElem? (i := 1) rfl) rfl rfl dX7_runCommand_61 ?_
    refine j_iload_n X 2 dX7_runCommand_64 rfl rfl ?_
    obtain ⟨o4, ho4, hf⟩ := f_bd hf
    refine j_callVi X oNe rfl rfl [.int x2] (c_X3_makeWrite X.2.2.2.2.2.2.2 ho4) (cwV 1 X.2.2.2.2.1 gX7_runCommand_X3_makeWrite rfl rfl rfl (by decide +kernel) ⟨Nat.le_of_ble_eq_true rfl, Nat.le_of_ble_eq_true rfl⟩) rfl rfl (Nat.le_of_ble_eq_true rfl) dX7_runCommand_65 ?_
    exact j_iret X Y (f_p1 hf) (f_p2 hf) dX7_runCommand_68
  replace hf := f_f c_119 hf
  by_cases c_120 : x1 = (nI 120)
  · replace hf := f_t c_120 hf
    refine j_look (tgt := 91) (off := 90) X dX7_runCommand_1 (by decide) (by rw [c_120]; decide) (by decide) ?_
    refine j_aload_n X 0 dX7_runCommand_91 rfl rfl ?_
    refine j_get (ref := "ProxyVersions") (index := 30) (v := .ref (ad 476)) X oPV inX7_runCommand_X7 rfl 2 (by decide) (List.mem_of_getElem? (i := 1) rfl) rfl rfl dX7_runCommand_92 ?_
    refine j_iload_n X 2 dX7_runCommand_95 rfl rfl ?_
    refine j_iconst X (v := (nI 0)) (by decide) dX7_runCommand_96 ?_
    refine j_iload_n X 3 dX7_runCommand_97 rfl rfl ?_
    obtain ⟨o5, ho5, hf⟩ := f_bd hf
    refine j_callVi X oNe rfl rfl [.int x2, .int (nI 0), .int x3] (c_X3_loseFirst X.2.2.2.2.2.2.2 ho5) (cwV 3 X.2.2.2.2.1 gX7_runCommand_X3_loseFirst rfl rfl rfl (by decide +kernel) ⟨Nat.le_of_ble_eq_true rfl, Nat.le_of_ble_eq_true rfl⟩) rfl rfl (Nat.le_of_ble_eq_true rfl) dX7_runCommand_98 ?_
    exact j_iret X Y (f_p1 hf) (f_p2 hf) dX7_runCommand_101
  replace hf := f_f c_120 hf
  by_cases c_121 : x1 = (nI 121)
  · replace hf := f_t c_121 hf
    refine j_look (tgt := 102) (off := 101) X dX7_runCommand_1 (by decide) (by rw [c_121]; decide) (by decide) ?_
    refine j_aload_n X 0 dX7_runCommand_102 rfl rfl ?_
    refine j_get (ref := "ProxyVersions") (index := 30) (v := .ref (ad 476)) X oPV inX7_runCommand_X7 rfl 2 (by decide) (List.mem_of_getElem? (i := 1) rfl) rfl rfl dX7_runCommand_103 ?_
    refine j_iload_n X 2 dX7_runCommand_106 rfl rfl ?_
    refine j_iconst X (v := (nI 1)) (by decide) dX7_runCommand_107 ?_
    refine j_iload_n X 3 dX7_runCommand_108 rfl rfl ?_
    obtain ⟨o6, ho6, hf⟩ := f_bd hf
    refine j_callVi X oNe rfl rfl [.int x2, .int (nI 1), .int x3] (c_X3_loseFirst X.2.2.2.2.2.2.2 ho6) (cwV 3 X.2.2.2.2.1 gX7_runCommand_X3_loseFirst rfl rfl rfl (by decide +kernel) ⟨Nat.le_of_ble_eq_true rfl, Nat.le_of_ble_eq_true rfl⟩) rfl rfl (Nat.le_of_ble_eq_true rfl) dX7_runCommand_109 ?_
    exact j_iret X Y (f_p1 hf) (f_p2 hf) dX7_runCommand_112
  replace hf := f_f c_121 hf
  have nc_97 : ¬ (97 : Int) = (x1).toInt := fun h => c_97 (Int32.toInt_inj.mp (h.symm.trans (by decide)))
  have nc_100 : ¬ (100 : Int) = (x1).toInt := fun h => c_100 (Int32.toInt_inj.mp (h.symm.trans (by decide)))
  have nc_117 : ¬ (117 : Int) = (x1).toInt := fun h => c_117 (Int32.toInt_inj.mp (h.symm.trans (by decide)))
  have nc_119 : ¬ (119 : Int) = (x1).toInt := fun h => c_119 (Int32.toInt_inj.mp (h.symm.trans (by decide)))
  have nc_120 : ¬ (120 : Int) = (x1).toInt := fun h => c_120 (Int32.toInt_inj.mp (h.symm.trans (by decide)))
  have nc_121 : ¬ (121 : Int) = (x1).toInt := fun h => c_121 (Int32.toInt_inj.mp (h.symm.trans (by decide)))
  refine j_look (tgt := 122) (off := 121) X dX7_runCommand_1 (by decide) (by simp only [Op.lookupswitch.offset_cons, Op.lookupswitch.offset_nil, nc_97, nc_100, nc_117, nc_119, nc_120, nc_121, if_false]) (by decide) ?_
  refine j_iconst X (v := (-1 : Int32)) (by decide) dX7_runCommand_122 ?_
  exact j_iret X Y (f_p1 hf) (f_p2 hf) dX7_runCommand_123
abbrev rmX7_runScript : Room := { frames := 6, cells := 0, slots := 0, locals := 152 }
theorem inX7_runScript_X5 : ∀ w ∈ wsX50, w ∈ wsX7_runScript := fun _ h => List.mem_cons_of_mem _ (List.mem_append_left _ (List.mem_append_left _ (List.mem_append_left _ (List.mem_append_left _ (List.mem_append_left _ (List.mem_append_right _ h))))))
theorem inX7_runScript_X7 : ∀ w ∈ wsX70, w ∈ wsX7_runScript := fun _ h => List.mem_cons_of_mem _ (List.mem_append_left _ (List.mem_append_left _ (List.mem_append_left _ (List.mem_append_left _ (List.mem_append_left _ (List.mem_append_left _ (List.mem_append_right _ h)))))))
set_option maxRecDepth 100000 in
set_option maxHeartbeats 4000000 in
theorem t_X7_runScript_j103 (X : CX p rmX7_runScript s m args c cX7_runScript 4 RX7 wsX7_runScript D (tC cI cL cS) 490 ad) (Y : RX meth (some .int)) {x2 : Int32} {x3 : Int32} {w : Wd} {kc : Int32 → Int32 → Wd → Option (Int32 × Wd)} {out : Int32 × Wd} (hf : m_X7_runScript_j103 x2 x3 w kc = some out) (hk_kc : ∀ (y2 : Int32) (y3 : Int32) (v : Wd), kc y2 y3 v = some out → WJ p l e rmX7_runScript s m args below meth c (MQ below (QWi D 490 ad (cellC cI cL cS ad) out.1 out.2) args s 0 0 (AW 490 ad)) 4 D 490 ad (cellC cI cL cS ad) v 58 [(0, .ref (ad 472)), (2, .int y2), (3, .int y3)] []) : WJ p l e rmX7_runScript s m args below meth c (MQ below (QWi D 490 ad (cellC cI cL cS ad) out.1 out.2) args s 0 0 (AW 490 ad)) 4 D 490 ad (cellC cI cL cS ad) w 103 [(0, .ref (ad 472)), (2, .int x2), (3, .int x3)] [] := by
  unfold m_X7_runScript_j103 at hf
  refine j_iinc (v := (x3 + (nI 1))) (lv' := [(0, .ref (ad 472)), (2, .int x2), (3, .int (x3 + (nI 1)))]) X 2 dX7_runScript_103 rfl rfl (by decide) rfl ?_
  refine j_goto (tgt := 58) X dX7_runScript_106 (by decide) ?_
  exact hk_kc _ _ _ hf
set_option maxRecDepth 100000 in
set_option maxHeartbeats 4000000 in
theorem t_X7_runScript_L58 (X : CX p rmX7_runScript s m args c cX7_runScript 4 RX7 wsX7_runScript D (tC cI cL cS) 490 ad) (Y : RX meth (some .int)) {out : Int32 × Wd} : ∀ (n : Nat) (x2 : Int32) (x3 : Int32) (w : Wd), m_X7_runScript_L58 n x2 x3 w = some out → WJ p l e rmX7_runScript s m args below meth c (MQ below (QWi D 490 ad (cellC cI cL cS ad) out.1 out.2) args s 0 0 (AW 490 ad)) 4 D 490 ad (cellC cI cL cS ad) w 58 [(0, .ref (ad 472)), (2, .int x2), (3, .int x3)] [] := by
  intro n
  induction n with
  | zero => intro x2 x3 w hf; exact f_n hf
  | succ n ih =>
    intro x2 x3 w hf
    rw [m_X7_runScript_L58] at hf
    refine j_iload_n X 2 dX7_runScript_58 rfl rfl ?_
    refine j_aload_n X 0 dX7_runScript_59 rfl rfl ?_
    refine j_get (ref := "ProxyVersions") (index := 53) (v := .ref (ad 479)) X oPV inX7_runScript_X7 rfl 5 (by decide) (List.mem_of_getElem? (i := 1) rfl) rfl rfl dX7_runScript_60 ?_
    obtain ⟨o1, ho1, hf⟩ := f_bd hf
    refine j_callVi X oSc rfl rfl [] (c_X4_length X.2.2.2.2.2.2.2 ho1) (cwV 0 X.2.2.2.2.1 gX7_runScript_X4_length rfl rfl rfl (by decide +kernel) ⟨Nat.le_of_ble_eq_true rfl, Nat.le_of_ble_eq_true rfl⟩) rfl rfl (Nat.le_of_ble_eq_true rfl) dX7_runScript_63 ?_
    refine j_icmp_ge (tgt := 109) X dX7_runScript_66 (by decide) (fun c => ?_) (fun c => ?_)
    · replace hf := f_t c hf
      refine j_iload_n X 1 dX7_runScript_109 rfl rfl ?_
      exact j_iret X Y (f_p1 hf) (f_p2 hf) dX7_runScript_110
    replace hf := f_f c hf
    refine j_aload_n X 0 dX7_runScript_69 rfl rfl ?_
    refine j_aload_n X 0 dX7_runScript_70 rfl rfl ?_
    refine j_get (ref := "ProxyVersions") (index := 53) (v := .ref (ad 479)) X oPV inX7_runScript_X7 rfl 5 (by decide) (List.mem_of_getElem? (i := 1) rfl) rfl rfl dX7_runScript_71 ?_
    refine j_iload_n X 2 dX7_runScript_74 rfl rfl ?_
    obtain ⟨o2, ho2, hf⟩ := f_bd hf
    refine j_callVi X oSc rfl rfl [.int x3] (c_X4_letterAt X.2.2.2.2.2.2.2 ho2) (cwV 1 X.2.2.2.2.1 gX7_runScript_X4_letterAt rfl rfl rfl (by decide +kernel) ⟨Nat.le_of_ble_eq_true rfl, Nat.le_of_ble_eq_true rfl⟩) rfl rfl (Nat.le_of_ble_eq_true rfl) dX7_runScript_75 ?_
    refine j_aload_n X 0 dX7_runScript_78 rfl rfl ?_
    refine j_get (ref := "ProxyVersions") (index := 53) (v := .ref (ad 479)) X oPV inX7_runScript_X7 rfl 5 (by decide) (List.mem_of_getElem? (i := 1) rfl) rfl rfl dX7_runScript_79 ?_
    refine j_iload_n X 2 dX7_runScript_82 rfl rfl ?_
    obtain ⟨o3, ho3, hf⟩ := f_bd hf
    refine j_callVi X oSc rfl rfl [.int x3] (c_X4_numberAt X.2.2.2.2.2.2.2 ho3) (cwV 1 X.2.2.2.2.1 gX7_runScript_X4_numberAt rfl rfl rfl (by decide +kernel) ⟨Nat.le_of_ble_eq_true rfl, Nat.le_of_ble_eq_true rfl⟩) rfl rfl (Nat.le_of_ble_eq_true rfl) dX7_runScript_83 ?_
    refine j_aload_n X 0 dX7_runScript_86 rfl rfl ?_
    refine j_get (ref := "ProxyVersions") (index := 53) (v := .ref (ad 479)) X oPV inX7_runScript_X7 rfl 5 (by decide) (List.mem_of_getElem? (i := 1) rfl) rfl rfl dX7_runScript_87 ?_
    refine j_iload_n X 2 dX7_runScript_90 rfl rfl ?_
    obtain ⟨o4, ho4, hf⟩ := f_bd hf
    refine j_callVi X oSc rfl rfl [.int x3] (c_X4_countAt X.2.2.2.2.2.2.2 ho4) (cwV 1 X.2.2.2.2.1 gX7_runScript_X4_countAt rfl rfl rfl (by decide +kernel) ⟨Nat.le_of_ble_eq_true rfl, Nat.le_of_ble_eq_true rfl⟩) rfl rfl (Nat.le_of_ble_eq_true rfl) dX7_runScript_91 ?_
    obtain ⟨o5, ho5, hf⟩ := f_bd hf
    refine j_callVi X oPV rfl rfl [.int o2, .int o3, .int o4] (c_X7_runCommand X.2.2.2.2.2.2.2 ho5) (cwV 3 X.2.2.2.2.1 gX7_runScript_X7_runCommand rfl rfl rfl (by decide +kernel) ⟨Nat.le_of_ble_eq_true rfl, Nat.le_of_ble_eq_true rfl⟩) rfl rfl (Nat.le_of_ble_eq_true rfl) dX7_runScript_94 ?_
    refine j_if_lt (tgt := 103) X dX7_runScript_97 (by decide) (fun c => ?_) (fun c => ?_)
    · replace hf := f_t c hf
      exact t_X7_runScript_j103 X Y hf ih
    replace hf := f_f c hf
    refine j_iinc (v := (x2 + (nI 1))) (lv' := [(0, .ref (ad 472)), (2, .int (x2 + (nI 1))), (3, .int x3)]) X 1 dX7_runScript_100 rfl rfl (by decide) rfl ?_
    exact t_X7_runScript_j103 X Y hf ih
set_option maxRecDepth 100000 in
set_option maxHeartbeats 4000000 in
theorem c_X7_runScript (hI : Inj 490 ad) {w : Wd} {out : Int32 × Wd} (hf : m_X7_runScript w = some out) : Met l yX7_runScript wsX7_runScript rmX7_runScript (va_Pc [.ref (ad 472)] (PW D (tC cI cL cS) 490 ad (cellC cI cL cS ad) w)) (QWi D 490 ad (cellC cI cL cS ad) out.1 out.2) 0 0 (AW 490 ad) := by
  refine mk_met (maxL := 4) (ret := (some .int)) RX7 hI (by decide) rfl rfl (Nat.le_of_ble_eq_true rfl) rfl rfl (fun p e s m args below meth c X Y => ?_)
  unfold m_X7_runScript at hf
  refine j_aload_n X 0 dX7_runScript_0 rfl rfl ?_
  refine j_get (ref := "ProxyVersions") (index := 53) (v := .ref (ad 479)) X oPV inX7_runScript_X7 rfl 5 (by decide) (List.mem_of_getElem? (i := 1) rfl) rfl rfl dX7_runScript_1 ?_
  refine j_aload_n X 0 dX7_runScript_4 rfl rfl ?_
  refine j_get (ref := "ProxyVersions") (index := 46) (v := .ref (ad 482)) X oPV inX7_runScript_X7 rfl 4 (by decide) (List.mem_of_getElem? (i := 2) rfl) rfl rfl dX7_runScript_5 ?_
  refine j_aload_n X 0 dX7_runScript_8 rfl rfl ?_
  refine j_get (ref := "ProxyVersions") (index := 12) (v := .ref (ad 50)) X oPV inX7_runScript_X7 rfl 0 (by decide) (List.mem_of_getElem? (i := 3) rfl) rfl rfl dX7_runScript_9 ?_
  refine j_getN (ref := "ProxyVersions$State") (index := 107) (host := "ProxyVersions") (v := .int (w 50 0)) X oS0 inX7_runScript_X5 rfl 0 (by decide) (List.mem_of_getElem? (i := 0) rfl) rfl rfl dX7_runScript_12 ?_
  obtain ⟨o1, ho1, hf⟩ := f_bd hf
  refine j_callVi X oSc rfl rfl [.ref (ad 482), .int (w 50 0)] (c_X4_parse X.2.2.2.2.2.2.2 ln482 ho1) (cwV 2 X.2.2.2.2.1 gX7_runScript_X4_parse rfl rfl rfl (by decide +kernel) ⟨Nat.le_of_ble_eq_true rfl, Nat.le_of_ble_eq_true rfl⟩) rfl rfl (Nat.le_of_ble_eq_true rfl) dX7_runScript_15 ?_
  refine j_istore_n (lv' := [(0, .ref (ad 472)), (1, .int o1.1)]) X dX7_runScript_18 rfl (by decide) rfl ?_
  refine j_iload_n X 1 dX7_runScript_19 rfl rfl ?_
  refine j_iconst X (v := (-1 : Int32)) (by decide) dX7_runScript_20 ?_
  refine j_icmp_eq (tgt := 29) X dX7_runScript_21 (by decide) (fun c => ?_) (fun c => ?_)
  · replace hf := f_t c hf
    refine j_aload_n X 0 dX7_runScript_29 rfl rfl ?_
    refine j_get (ref := "ProxyVersions") (index := 37) (v := .ref (ad 477)) X oPV inX7_runScript_X7 rfl 3 (by decide) (List.mem_of_getElem? (i := 4) rfl) rfl rfl dX7_runScript_30 ?_
    refine j_aload_n X 0 dX7_runScript_33 rfl rfl ?_
    refine j_get (ref := "ProxyVersions") (index := 12) (v := .ref (ad 50)) X oPV inX7_runScript_X7 rfl 0 (by decide) (List.mem_of_getElem? (i := 3) rfl) rfl rfl dX7_runScript_34 ?_
    obtain ⟨o2, ho2, hf⟩ := f_bd hf
    refine j_callVv X oHi rfl rfl [.ref (ad 50)] (c_X1_stage X.2.2.2.2.2.2.2 ho2) (cwV 1 X.2.2.2.2.1 gX7_runScript_X1_stage rfl rfl rfl (by decide +kernel) ⟨Nat.le_of_ble_eq_true rfl, Nat.le_of_ble_eq_true rfl⟩) rfl rfl (Nat.le_of_ble_eq_true rfl) dX7_runScript_37 ?_
    refine j_aload_n X 0 dX7_runScript_40 rfl rfl ?_
    refine j_get (ref := "ProxyVersions") (index := 37) (v := .ref (ad 477)) X oPV inX7_runScript_X7 rfl 3 (by decide) (List.mem_of_getElem? (i := 4) rfl) rfl rfl dX7_runScript_41 ?_
    obtain ⟨o3, ho3, hf⟩ := f_bd hf
    refine j_callVv X oHi rfl rfl [] (c_X1_commit X.2.2.2.2.2.2.2 ho3) (cwV 0 X.2.2.2.2.1 gX7_runScript_X1_commit rfl rfl rfl (by decide +kernel) ⟨Nat.le_of_ble_eq_true rfl, Nat.le_of_ble_eq_true rfl⟩) rfl rfl (Nat.le_of_ble_eq_true rfl) dX7_runScript_44 ?_
    refine j_aload_n X 0 dX7_runScript_47 rfl rfl ?_
    refine j_get (ref := "ProxyVersions") (index := 46) (v := .ref (ad 482)) X oPV inX7_runScript_X7 rfl 4 (by decide) (List.mem_of_getElem? (i := 2) rfl) rfl rfl dX7_runScript_48 ?_
    obtain ⟨o4, ho4, hf⟩ := f_bd hf
    refine j_callVv X (oLn ln482) rfl rfl [] (c_X2_clear X.2.2.2.2.2.2.2 ln482 ho4) (cwV 0 X.2.2.2.2.1 gX7_runScript_X2_clear rfl rfl rfl (by decide +kernel) ⟨Nat.le_of_ble_eq_true rfl, Nat.le_of_ble_eq_true rfl⟩) rfl rfl (Nat.le_of_ble_eq_true rfl) dX7_runScript_51 ?_
    refine j_iconst X (v := (nI 0)) (by decide) dX7_runScript_54 ?_
    refine j_istore_n (lv' := [(0, .ref (ad 472)), (1, .int o1.1), (2, .int (nI 0))]) X dX7_runScript_55 rfl (by decide) rfl ?_
    refine j_iconst X (v := (nI 0)) (by decide) dX7_runScript_56 ?_
    refine j_istore_n (lv' := [(0, .ref (ad 472)), (1, .int o1.1), (2, .int (nI 0)), (3, .int (nI 0))]) X dX7_runScript_57 rfl (by decide) rfl ?_
    refine j_sub [0, 2, 3] rfl ?_
    refine t_X7_runScript_L58 X Y _ _ _ _ hf
  replace hf := f_f c hf
  refine j_bipush X (v := (-10 : Int32)) (by decide) dX7_runScript_24 ?_
  refine j_iload_n X 1 dX7_runScript_26 rfl rfl ?_
  refine j_isub X dX7_runScript_27 ?_
  exact j_iret X Y (f_p1 hf) (f_p2 hf) dX7_runScript_28
abbrev rmX7_undo : Room := { frames := 4, cells := 0, slots := 0, locals := 124 }
theorem inX7_undo_X7 : ∀ w ∈ wsX70, w ∈ wsX7_undo := fun _ h => List.mem_cons_of_mem _ (List.mem_append_left _ (List.mem_append_left _ (List.mem_append_left _ (List.mem_append_right _ h))))
set_option maxRecDepth 100000 in
set_option maxHeartbeats 4000000 in
theorem c_X7_undo (hI : Inj 490 ad) {w : Wd} {out : Int32 × Wd} (hf : m_X7_undo w = some out) : Met l yX7_undo wsX7_undo rmX7_undo (va_Pc [.ref (ad 472)] (PW D (tC cI cL cS) 490 ad (cellC cI cL cS ad) w)) (QWi D 490 ad (cellC cI cL cS ad) out.1 out.2) 0 0 (AW 490 ad) := by
  refine mk_met (maxL := 1) (ret := (some .int)) RX7 hI (by decide) rfl rfl (Nat.le_of_ble_eq_true rfl) rfl rfl (fun p e s m args below meth c X Y => ?_)
  unfold m_X7_undo at hf
  refine j_aload_n X 0 dX7_undo_0 rfl rfl ?_
  refine j_get (ref := "ProxyVersions") (index := 37) (v := .ref (ad 477)) X oPV inX7_undo_X7 rfl 3 (by decide) (List.mem_of_getElem? (i := 1) rfl) rfl rfl dX7_undo_1 ?_
  refine j_aload_n X 0 dX7_undo_4 rfl rfl ?_
  refine j_get (ref := "ProxyVersions") (index := 12) (v := .ref (ad 50)) X oPV inX7_undo_X7 rfl 0 (by decide) (List.mem_of_getElem? (i := 2) rfl) rfl rfl dX7_undo_5 ?_
  obtain ⟨o1, ho1, hf⟩ := f_bd hf
  refine j_callVi X oHi rfl rfl [.ref (ad 50)] (c_X1_restore X.2.2.2.2.2.2.2 ho1) (cwV 1 X.2.2.2.2.1 gX7_undo_X1_restore rfl rfl rfl (by decide +kernel) ⟨Nat.le_of_ble_eq_true rfl, Nat.le_of_ble_eq_true rfl⟩) rfl rfl (Nat.le_of_ble_eq_true rfl) dX7_undo_8 ?_
  refine j_if_eq (tgt := 24) X dX7_undo_11 (by decide) (fun c => ?_) (fun c => ?_)
  · replace hf := f_t c hf
    refine j_bipush X (v := (-2 : Int32)) (by decide) dX7_undo_24 ?_
    exact j_iret X Y (f_p1 hf) (f_p2 hf) dX7_undo_26
  replace hf := f_f c hf
  refine j_aload_n X 0 dX7_undo_14 rfl rfl ?_
  refine j_get (ref := "ProxyVersions") (index := 37) (v := .ref (ad 477)) X oPV inX7_undo_X7 rfl 3 (by decide) (List.mem_of_getElem? (i := 1) rfl) rfl rfl dX7_undo_15 ?_
  obtain ⟨o2, ho2, hf⟩ := f_bd hf
  refine j_callVi X oHi rfl rfl [] (c_X1_savedCount X.2.2.2.2.2.2.2 ho2) (cwV 0 X.2.2.2.2.1 gX7_undo_X1_savedCount rfl rfl rfl (by decide +kernel) ⟨Nat.le_of_ble_eq_true rfl, Nat.le_of_ble_eq_true rfl⟩) rfl rfl (Nat.le_of_ble_eq_true rfl) dX7_undo_18 ?_
  refine j_goto (tgt := 26) X dX7_undo_21 (by decide) ?_
  exact j_iret X Y (f_p1 hf) (f_p2 hf) dX7_undo_26
end WALK14
