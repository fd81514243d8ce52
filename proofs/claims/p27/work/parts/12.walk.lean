/-! ===== the bytecode does what the model says (printed by wip/p27/tools/genL.py) ===== -/
section WALK12
variable {p : Program} {l : Launch} {e : Env} {s : State} {m : MethodId} {args : Array Value} {below : List Frame} {meth : Method} {c : Code} {D : va_G} {cI cL cS : ClassId} {ad : Nat → Nat}
abbrev rmX3_arrive : Room := { frames := 3, cells := 0, slots := 0, locals := 74 }
theorem inX3_arrive_X3 : ∀ w ∈ wsX30, w ∈ wsX3_arrive := fun _ h => List.mem_cons_of_mem _ (List.mem_append_left _ (List.mem_append_left _ (List.mem_append_left _ (List.mem_append_right _ h))))
theorem inX3_arrive_X5 : ∀ w ∈ wsX50, w ∈ wsX3_arrive := fun _ h => List.mem_cons_of_mem _ (List.mem_append_left _ (List.mem_append_left _ (List.mem_append_right _ h)))
set_option maxRecDepth 100000 in
set_option maxHeartbeats 4000000 in
theorem t_X3_arrive_j75 (X : CX p rmX3_arrive s m args c cX3_arrive 6 RX3 wsX3_arrive D (tC cI cL cS) 490 ad) (Y : RX meth (some .boolean)) {x1 : Int32} {x2 : Int32} {x3 : Int32} {x4 : Int32} {x5 : Int32} {w : Wd} {out : Int32 × Wd} (hf : m_X3_arrive_j75 x1 x2 x3 x4 x5 w = some out) : WJ p l e rmX3_arrive s m args below meth c (MQ below (QWi D 490 ad (cellC cI cL cS ad) out.1 out.2) args s 0 0 (AW 490 ad)) 6 D 490 ad (cellC cI cL cS ad) w 75 [(0, .ref (ad 476)), (1, .int x1), (2, .int x2), (3, .int x3), (4, .int x4), (5, .int x5)] [] := by
  unfold m_X3_arrive_j75 at hf
  refine j_aload_n X 0 dX3_arrive_75 rfl rfl ?_
  refine j_get (ref := "ProxyVersions$Network") (index := 20) (v := .ref (ad 50)) X oNe inX3_arrive_X3 rfl 0 (by decide) (List.mem_of_getElem? (i := 1) rfl) rfl rfl dX3_arrive_76 ?_
  refine j_iload_n X 1 dX3_arrive_79 rfl rfl ?_
  refine j_iload X 4 dX3_arrive_80 rfl ?_
  refine j_iload X 5 dX3_arrive_82 rfl ?_
  obtain ⟨o1, ho1, hf⟩ := f_bd hf
  refine j_callVv X oS0 rfl rfl [.int x1, .int x4, .int x5] (c_X5_addKnown X.2.2.2.2.2.2.2 ho1) (cwV 3 X.2.2.2.2.1 gX3_arrive_X5_addKnown rfl rfl rfl (by decide +kernel) ⟨Nat.le_of_ble_eq_true rfl, Nat.le_of_ble_eq_true rfl⟩) rfl rfl (Nat.le_of_ble_eq_true rfl) dX3_arrive_84 ?_
  refine j_aload_n X 0 dX3_arrive_87 rfl rfl ?_
  refine j_iload_n X 1 dX3_arrive_88 rfl rfl ?_
  refine j_iload_n X 3 dX3_arrive_89 rfl rfl ?_
  obtain ⟨o2, ho2, hf⟩ := f_bd hf
  refine j_callVv X oNe rfl rfl [.int x1, .int x3] (c_X3_keepContent X.2.2.2.2.2.2.2 ho2) (cwV 2 X.2.2.2.2.1 gX3_arrive_X3_keepContent rfl rfl rfl (by decide +kernel) ⟨Nat.le_of_ble_eq_true rfl, Nat.le_of_ble_eq_true rfl⟩) rfl rfl (Nat.le_of_ble_eq_true rfl) dX3_arrive_90 ?_
  refine j_aload_n X 0 dX3_arrive_93 rfl rfl ?_
  refine j_iload_n X 1 dX3_arrive_94 rfl rfl ?_
  refine j_iload_n X 2 dX3_arrive_95 rfl rfl ?_
  refine j_iload_n X 3 dX3_arrive_96 rfl rfl ?_
  obtain ⟨o3, ho3, hf⟩ := f_bd hf
  refine j_callVv X oNe rfl rfl [.int x1, .int x2, .int x3] (c_X3_passOn X.2.2.2.2.2.2.2 ho3) (cwV 3 X.2.2.2.2.1 gX3_arrive_X3_passOn rfl rfl rfl (by decide +kernel) ⟨Nat.le_of_ble_eq_true rfl, Nat.le_of_ble_eq_true rfl⟩) rfl rfl (Nat.le_of_ble_eq_true rfl) dX3_arrive_97 ?_
  refine j_iconst X (v := (nI 1)) (by decide) dX3_arrive_100 ?_
  exact j_bret X Y (Eq.trans (by decide : (nI 1) &&& 1 = (nI 1)) (f_p1 hf)) (f_p2 hf) dX3_arrive_101
set_option maxRecDepth 100000 in
set_option maxHeartbeats 4000000 in
theorem c_X3_arrive (hI : Inj 490 ad) {x1 : Int32} {x2 : Int32} {x3 : Int32} {w : Wd} {out : Int32 × Wd} (hf : m_X3_arrive x1 x2 x3 w = some out) : Met l yX3_arrive wsX3_arrive rmX3_arrive (va_Pc [.ref (ad 476), .int x1, .int x2, .int x3] (PW D (tC cI cL cS) 490 ad (cellC cI cL cS ad) w)) (QWi D 490 ad (cellC cI cL cS ad) out.1 out.2) 0 0 (AW 490 ad) := by
  refine mk_met (maxL := 6) (ret := (some .boolean)) RX3 hI (by decide) rfl rfl (Nat.le_of_ble_eq_true rfl) rfl rfl (fun p e s m args below meth c X Y => ?_)
  unfold m_X3_arrive at hf
  refine j_iload_n X 3 dX3_arrive_0 rfl rfl ?_
  obtain ⟨o1, ho1, hf⟩ := f_bd hf
  refine j_callSNi X [.int x3] (c_X7_originOf X.2.2.2.2.2.2.2 ho1) ⟨va_cnB 1 X.2.2.2.2.1 gX3_arrive_X7_originOf_n160 rfl rfl rfl (X.2.2.2.2.2.2.1.2 ("ProxyVersions$Network", 160, ⟨"ProxyVersions", "originOf", "(I)I"⟩, "ProxyVersions") (List.mem_of_getElem? (i := 1) rfl)) (X.2.2.2.2.1 _ (List.mem_of_getElem? (i := 3) rfl)) (by decide +kernel) ⟨Nat.le_of_ble_eq_true rfl, Nat.le_of_ble_eq_true rfl⟩, X.2.2.2.2.1 _ (List.mem_of_getElem? (i := 2) rfl), trivial⟩ rfl rfl (Nat.le_of_ble_eq_true rfl) dX3_arrive_1 ?_
  refine j_istore (lv' := [(0, .ref (ad 476)), (1, .int x1), (2, .int x2), (3, .int x3), (4, .int o1)]) X dX3_arrive_4 (by decide) rfl ?_
  refine j_iload_n X 3 dX3_arrive_6 rfl rfl ?_
  obtain ⟨o2, ho2, hf⟩ := f_bd hf
  refine j_callSNi X [.int x3] (c_X7_versionOf X.2.2.2.2.2.2.2 ho2) ⟨va_cnB 1 X.2.2.2.2.1 gX3_arrive_X7_versionOf_n163 rfl rfl rfl (X.2.2.2.2.2.2.1.2 ("ProxyVersions$Network", 163, ⟨"ProxyVersions", "versionOf", "(I)I"⟩, "ProxyVersions") (List.mem_of_getElem? (i := 2) rfl)) (X.2.2.2.2.1 _ (List.mem_of_getElem? (i := 3) rfl)) (by decide +kernel) ⟨Nat.le_of_ble_eq_true rfl, Nat.le_of_ble_eq_true rfl⟩, X.2.2.2.2.1 _ (List.mem_of_getElem? (i := 5) rfl), trivial⟩ rfl rfl (Nat.le_of_ble_eq_true rfl) dX3_arrive_7 ?_
  refine j_istore (lv' := [(0, .ref (ad 476)), (1, .int x1), (2, .int x2), (3, .int x3), (4, .int o1), (5, .int o2)]) X dX3_arrive_10 (by decide) rfl ?_
  refine j_aload_n X 0 dX3_arrive_12 rfl rfl ?_
  refine j_get (ref := "ProxyVersions$Network") (index := 20) (v := .ref (ad 50)) X oNe inX3_arrive_X3 rfl 0 (by decide) (List.mem_of_getElem? (i := 1) rfl) rfl rfl dX3_arrive_13 ?_
  refine j_iload_n X 1 dX3_arrive_16 rfl rfl ?_
  refine j_iload X 4 dX3_arrive_17 rfl ?_
  refine j_iload X 5 dX3_arrive_19 rfl ?_
  obtain ⟨o3, ho3, hf⟩ := f_bd hf
  refine j_callVi X oS0 rfl rfl [.int x1, .int o1, .int o2] (c_X5_knows X.2.2.2.2.2.2.2 ho3) (cwV 3 X.2.2.2.2.1 gX3_arrive_X5_knows rfl rfl rfl (by decide +kernel) ⟨Nat.le_of_ble_eq_true rfl, Nat.le_of_ble_eq_true rfl⟩) rfl rfl (Nat.le_of_ble_eq_true rfl) dX3_arrive_21 ?_
  refine j_if_eq (tgt := 29) X dX3_arrive_24 (by decide) (fun c => ?_) (fun c => ?_)
  · replace hf := f_t c hf
    refine j_iload_n X 1 dX3_arrive_29 rfl rfl ?_
    refine j_if_eq (tgt := 75) X dX3_arrive_30 (by decide) (fun c => ?_) (fun c => ?_)
    · replace hf := f_t c hf
      exact t_X3_arrive_j75 X Y hf
    replace hf := f_f c hf
    refine j_iload_n X 2 dX3_arrive_33 rfl rfl ?_
    refine j_iconst X (v := (-1 : Int32)) (by decide) dX3_arrive_34 ?_
    refine j_icmp_eq (tgt := 75) X dX3_arrive_35 (by decide) (fun c => ?_) (fun c => ?_)
    · replace hf := f_t c hf
      exact t_X3_arrive_j75 X Y hf
    replace hf := f_f c hf
    refine j_aload_n X 0 dX3_arrive_38 rfl rfl ?_
    refine j_get (ref := "ProxyVersions$Network") (index := 20) (v := .ref (ad 50)) X oNe inX3_arrive_X3 rfl 0 (by decide) (List.mem_of_getElem? (i := 1) rfl) rfl rfl dX3_arrive_39 ?_
    refine j_iload_n X 1 dX3_arrive_42 rfl rfl ?_
    refine j_iload X 4 dX3_arrive_43 rfl ?_
    refine j_iload X 5 dX3_arrive_45 rfl ?_
    obtain ⟨o4, ho4, hf⟩ := f_bd hf
    refine j_callVi X oS0 rfl rfl [.int x1, .int o1, .int o2] (c_X5_rangesWith X.2.2.2.2.2.2.2 ho4) (cwV 3 X.2.2.2.2.1 gX3_arrive_X5_rangesWith rfl rfl rfl (by decide +kernel) ⟨Nat.le_of_ble_eq_true rfl, Nat.le_of_ble_eq_true rfl⟩) rfl rfl (Nat.le_of_ble_eq_true rfl) dX3_arrive_47 ?_
    refine j_aload_n X 0 dX3_arrive_50 rfl rfl ?_
    refine j_get (ref := "ProxyVersions$Network") (index := 20) (v := .ref (ad 50)) X oNe inX3_arrive_X3 rfl 0 (by decide) (List.mem_of_getElem? (i := 1) rfl) rfl rfl dX3_arrive_51 ?_
    refine j_getN (ref := "ProxyVersions$State") (index := 55) (host := "ProxyVersions") (v := .int (w 50 1)) X oS0 inX3_arrive_X5 rfl 1 (by decide) (List.mem_of_getElem? (i := 12) rfl) rfl rfl dX3_arrive_54 ?_
    refine j_icmp_le (tgt := 75) X dX3_arrive_57 (by decide) (fun c => ?_) (fun c => ?_)
    · replace hf := f_t c hf
      exact t_X3_arrive_j75 X Y hf
    replace hf := f_f c hf
    refine j_aload_n X 0 dX3_arrive_60 rfl rfl ?_
    refine j_get (ref := "ProxyVersions$Network") (index := 20) (v := .ref (ad 50)) X oNe inX3_arrive_X3 rfl 0 (by decide) (List.mem_of_getElem? (i := 1) rfl) rfl rfl dX3_arrive_61 ?_
    refine j_dup X rfl dX3_arrive_64 ?_
    refine j_getN (ref := "ProxyVersions$State") (index := 134) (host := "ProxyVersions") (v := .int (w 50 3)) X oS0 inX3_arrive_X5 rfl 3 (by decide) (List.mem_of_getElem? (i := 8) rfl) rfl rfl dX3_arrive_65 ?_
    refine j_iconst X (v := (nI 1)) (by decide) dX3_arrive_68 ?_
    refine j_iadd X dX3_arrive_69 ?_
    obtain ⟨w5, ew5, hf⟩ := f_lt hf
    refine j_putN (ref := "ProxyVersions$State") (index := 134) (host := "ProxyVersions")  X oS0 inX3_arrive_X5 tyX5_ok nmX5 rfl 3 (by decide) (List.mem_of_getElem? (i := 8) rfl) rfl rfl rfl (Nat.le_of_ble_eq_true rfl) rfl dX3_arrive_70 ew5 ?_
    refine j_iconst X (v := (nI 0)) (by decide) dX3_arrive_73 ?_
    exact j_bret X Y (Eq.trans (by decide : (nI 0) &&& 1 = (nI 0)) (f_p1 hf)) (f_p2 hf) dX3_arrive_74
  replace hf := f_f c hf
  refine j_iconst X (v := (nI 0)) (by decide) dX3_arrive_27 ?_
  exact j_bret X Y (Eq.trans (by decide : (nI 0) &&& 1 = (nI 0)) (f_p1 hf)) (f_p2 hf) dX3_arrive_28
abbrev rmX3_makeWrite : Room := { frames := 4, cells := 0, slots := 0, locals := 99 }
theorem inX3_makeWrite_X3 : ∀ w ∈ wsX30, w ∈ wsX3_makeWrite := fun _ h => List.mem_cons_of_mem _ (List.mem_append_left _ (List.mem_append_left _ (List.mem_append_left _ (List.mem_append_right _ h))))
set_option maxRecDepth 100000 in
set_option maxHeartbeats 4000000 in
theorem t_X3_makeWrite_j91 (X : CX p rmX3_makeWrite s m args c cX3_makeWrite 5 RX3 wsX3_makeWrite D (tC cI cL cS) 490 ad) (Y : RX meth (some .int)) {x1 : Int32} {x2 : Int32} {x3 : Int32} {x4 : Int32} {s1 : Int32} {s2 : Int32} {s3 : Int32} {s4 : Int32} {w : Wd} {kc : Int32 → Wd → Option (Int32 × Wd)} {kx100 : Wd → Option (Int32 × Wd)} {out : Int32 × Wd} (hf : m_X3_makeWrite_j91 x1 x2 x3 x4 s1 s2 s3 s4 w kc kx100 = some out) (hk_kc : ∀ (y4 : Int32) (v : Wd), kc y4 v = some out → WJ p l e rmX3_makeWrite s m args below meth c (MQ below (QWi D 490 ad (cellC cI cL cS ad) out.1 out.2) args s 0 0 (AW 490 ad)) 5 D 490 ad (cellC cI cL cS ad) v 56 [(0, .ref (ad 476)), (1, .int x1), (2, .int x2), (3, .int x3), (4, .int y4)] []) (hk_kx100 : ∀  (v : Wd), kx100 v = some out → WJ p l e rmX3_makeWrite s m args below meth c (MQ below (QWi D 490 ad (cellC cI cL cS ad) out.1 out.2) args s 0 0 (AW 490 ad)) 5 D 490 ad (cellC cI cL cS ad) v 100 [(0, .ref (ad 476)), (1, .int x1), (2, .int x2), (3, .int x3)] []) : WJ p l e rmX3_makeWrite s m args below meth c (MQ below (QWi D 490 ad (cellC cI cL cS ad) out.1 out.2) args s 0 0 (AW 490 ad)) 5 D 490 ad (cellC cI cL cS ad) w 91 [(0, .ref (ad 476)), (1, .int x1), (2, .int x2), (3, .int x3), (4, .int x4)] [.int s4, .int s3, .int s2, .int s1, .ref (ad 50)] := by
  unfold m_X3_makeWrite_j91 at hf
  obtain ⟨o1, ho1, hf⟩ := f_bd hf
  refine j_callVv X oS0 rfl rfl [.int s1, .int s2, .int s3, .int s4] (c_X5_setCause X.2.2.2.2.2.2.2 ho1) (cwV 4 X.2.2.2.2.1 gX3_makeWrite_X5_setCause rfl rfl rfl (by decide +kernel) ⟨Nat.le_of_ble_eq_true rfl, Nat.le_of_ble_eq_true rfl⟩) rfl rfl (Nat.le_of_ble_eq_true rfl) dX3_makeWrite_91 ?_
  refine j_iinc (v := (x4 + (nI 1))) (lv' := [(0, .ref (ad 476)), (1, .int x1), (2, .int x2), (3, .int x3), (4, .int (x4 + (nI 1)))]) X 4 dX3_makeWrite_94 rfl rfl (by decide) rfl ?_
  refine j_goto (tgt := 56) X dX3_makeWrite_97 (by decide) ?_
  exact hk_kc _ _ hf
set_option maxRecDepth 100000 in
set_option maxHeartbeats 4000000 in
theorem t_X3_makeWrite_L56 (X : CX p rmX3_makeWrite s m args c cX3_makeWrite 5 RX3 wsX3_makeWrite D (tC cI cL cS) 490 ad) (Y : RX meth (some .int)) {x1 : Int32} {x2 : Int32} {x3 : Int32} {kx100 : Wd → Option (Int32 × Wd)} {out : Int32 × Wd} (hk_kx100 : ∀  (v : Wd), kx100 v = some out → WJ p l e rmX3_makeWrite s m args below meth c (MQ below (QWi D 490 ad (cellC cI cL cS ad) out.1 out.2) args s 0 0 (AW 490 ad)) 5 D 490 ad (cellC cI cL cS ad) v 100 [(0, .ref (ad 476)), (1, .int x1), (2, .int x2), (3, .int x3)] []) : ∀ (n : Nat) (x4 : Int32) (w : Wd), m_X3_makeWrite_L56 x1 x2 x3 kx100 n x4 w = some out → WJ p l e rmX3_makeWrite s m args below meth c (MQ below (QWi D 490 ad (cellC cI cL cS ad) out.1 out.2) args s 0 0 (AW 490 ad)) 5 D 490 ad (cellC cI cL cS ad) w 56 [(0, .ref (ad 476)), (1, .int x1), (2, .int x2), (3, .int x3), (4, .int x4)] [] := by
  intro n
  induction n with
  | zero => intro x4 w hf; exact f_n hf
  | succ n ih =>
    intro x4 w hf
    rw [m_X3_makeWrite_L56] at hf
    refine j_iload X 4 dX3_makeWrite_56 rfl ?_
    refine j_iconst X (v := (nI 4)) (by decide) dX3_makeWrite_58 ?_
    refine j_icmp_ge (tgt := 100) X dX3_makeWrite_59 (by decide) (fun c => ?_) (fun c => ?_)
    · replace hf := f_t c hf
      refine j_sub [0, 1, 2, 3] rfl ?_
      exact hk_kx100 _ hf
    replace hf := f_f c hf
    refine j_aload_n X 0 dX3_makeWrite_62 rfl rfl ?_
    refine j_get (ref := "ProxyVersions$Network") (index := 20) (v := .ref (ad 50)) X oNe inX3_makeWrite_X3 rfl 0 (by decide) (List.mem_of_getElem? (i := 1) rfl) rfl rfl dX3_makeWrite_63 ?_
    refine j_iload_n X 1 dX3_makeWrite_66 rfl rfl ?_
    refine j_iload_n X 3 dX3_makeWrite_67 rfl rfl ?_
    refine j_iload X 4 dX3_makeWrite_68 rfl ?_
    refine j_iload X 4 dX3_makeWrite_70 rfl ?_
    refine j_iload_n X 1 dX3_makeWrite_72 rfl rfl ?_
    refine j_icmp_ne (tgt := 82) X dX3_makeWrite_73 (by decide) (fun c => ?_) (fun c => ?_)
    · replace hf := f_t c hf
      refine j_aload_n X 0 dX3_makeWrite_82 rfl rfl ?_
      refine j_get (ref := "ProxyVersions$Network") (index := 24) (v := .ref (ad 473)) X oNe inX3_makeWrite_X3 rfl 1 (by decide) (List.mem_of_getElem? (i := 2) rfl) rfl rfl dX3_makeWrite_83 ?_
      refine j_iload X 4 dX3_makeWrite_86 rfl ?_
      obtain ⟨o1, ho1, hf⟩ := f_bd hf
      refine j_callVi X oCa rfl rfl [.int x4] (c_X0_prefixFound X.2.2.2.2.2.2.2 ho1) (cwV 1 X.2.2.2.2.1 gX3_makeWrite_X0_prefixFound rfl rfl rfl (by decide +kernel) ⟨Nat.le_of_ble_eq_true rfl, Nat.le_of_ble_eq_true rfl⟩) rfl rfl (Nat.le_of_ble_eq_true rfl) dX3_makeWrite_88 ?_
      exact t_X3_makeWrite_j91 X Y hf ih hk_kx100
    replace hf := f_fn c hf
    refine j_iload_n X 3 dX3_makeWrite_76 rfl rfl ?_
    refine j_iconst X (v := (nI 1)) (by decide) dX3_makeWrite_77 ?_
    refine j_isub X dX3_makeWrite_78 ?_
    refine j_goto (tgt := 91) X dX3_makeWrite_79 (by decide) ?_
    exact t_X3_makeWrite_j91 X Y hf ih hk_kx100
set_option maxRecDepth 100000 in
set_option maxHeartbeats 4000000 in
theorem c_X3_makeWrite (hI : Inj 490 ad) {x1 : Int32} {w : Wd} {out : Int32 × Wd} (hf : m_X3_makeWrite x1 w = some out) : Met l yX3_makeWrite wsX3_makeWrite rmX3_makeWrite (va_Pc [.ref (ad 476), .int x1] (PW D (tC cI cL cS) 490 ad (cellC cI cL cS ad) w)) (QWi D 490 ad (cellC cI cL cS ad) out.1 out.2) 0 0 (AW 490 ad) := by
  refine mk_met (maxL := 5) (ret := (some .int)) RX3 hI (by decide) rfl rfl (Nat.le_of_ble_eq_true rfl) rfl rfl (fun p e s m args below meth c X Y => ?_)
  unfold m_X3_makeWrite at hf
  refine j_iload_n X 1 dX3_makeWrite_0 rfl rfl ?_
  obtain ⟨o1, ho1, hf⟩ := f_bd hf
  refine j_callSNi X [.int x1] (c_X7_isOrigin X.2.2.2.2.2.2.2 ho1) ⟨va_cnB 1 X.2.2.2.2.1 gX3_makeWrite_X7_isOrigin_n42 rfl rfl rfl (X.2.2.2.2.2.2.1.2 ("ProxyVersions$Network", 42, ⟨"ProxyVersions", "isOrigin", "(I)Z"⟩, "ProxyVersions") (List.mem_of_getElem? (i := 3) rfl)) (X.2.2.2.2.1 _ (List.mem_of_getElem? (i := 4) rfl)) (by decide +kernel) ⟨Nat.le_of_ble_eq_true rfl, Nat.le_of_ble_eq_true rfl⟩, X.2.2.2.2.1 _ (List.mem_of_getElem? (i := 3) rfl), trivial⟩ rfl rfl (Nat.le_of_ble_eq_true rfl) dX3_makeWrite_1 ?_
  refine j_if_ne (tgt := 9) X dX3_makeWrite_4 (by decide) (fun c => ?_) (fun c => ?_)
  · replace hf := f_t c hf
    refine j_aload_n X 0 dX3_makeWrite_9 rfl rfl ?_
    refine j_get (ref := "ProxyVersions$Network") (index := 20) (v := .ref (ad 50)) X oNe inX3_makeWrite_X3 rfl 0 (by decide) (List.mem_of_getElem? (i := 1) rfl) rfl rfl dX3_makeWrite_10 ?_
    refine j_iload_n X 1 dX3_makeWrite_13 rfl rfl ?_
    obtain ⟨o2, ho2, hf⟩ := f_bd hf
    refine j_callVi X oS0 rfl rfl [.int x1] (c_X5_writtenOf X.2.2.2.2.2.2.2 ho2) (cwV 1 X.2.2.2.2.1 gX3_makeWrite_X5_writtenOf rfl rfl rfl (by decide +kernel) ⟨Nat.le_of_ble_eq_true rfl, Nat.le_of_ble_eq_true rfl⟩) rfl rfl (Nat.le_of_ble_eq_true rfl) dX3_makeWrite_14 ?_
    refine j_bipush X (v := (nI 24)) (by decide) dX3_makeWrite_17 ?_
    refine j_icmp_lt (tgt := 25) X dX3_makeWrite_19 (by decide) (fun c => ?_) (fun c => ?_)
    · replace hf := f_t c hf
      refine j_aload_n X 0 dX3_makeWrite_25 rfl rfl ?_
      refine j_get (ref := "ProxyVersions$Network") (index := 20) (v := .ref (ad 50)) X oNe inX3_makeWrite_X3 rfl 0 (by decide) (List.mem_of_getElem? (i := 1) rfl) rfl rfl dX3_makeWrite_26 ?_
      refine j_iload_n X 1 dX3_makeWrite_29 rfl rfl ?_
      obtain ⟨o3, ho3, hf⟩ := f_bd hf
      refine j_callVi X oS0 rfl rfl [.int x1] (c_X5_homeOf X.2.2.2.2.2.2.2 ho3) (cwV 1 X.2.2.2.2.1 gX3_makeWrite_X5_homeOf rfl rfl rfl (by decide +kernel) ⟨Nat.le_of_ble_eq_true rfl, Nat.le_of_ble_eq_true rfl⟩) rfl rfl (Nat.le_of_ble_eq_true rfl) dX3_makeWrite_30 ?_
      refine j_istore_n (lv' := [(0, .ref (ad 476)), (1, .int x1), (2, .int o3)]) X dX3_makeWrite_33 rfl (by decide) rfl ?_
      refine j_aload_n X 0 dX3_makeWrite_34 rfl rfl ?_
      refine j_get (ref := "ProxyVersions$Network") (index := 20) (v := .ref (ad 50)) X oNe inX3_makeWrite_X3 rfl 0 (by decide) (List.mem_of_getElem? (i := 1) rfl) rfl rfl dX3_makeWrite_35 ?_
      refine j_iload_n X 1 dX3_makeWrite_38 rfl rfl ?_
      obtain ⟨o4, ho4, hf⟩ := f_bd hf
      refine j_callVi X oS0 rfl rfl [.int x1] (c_X5_writtenOf X.2.2.2.2.2.2.2 ho4) (cwV 1 X.2.2.2.2.1 gX3_makeWrite_X5_writtenOf rfl rfl rfl (by decide +kernel) ⟨Nat.le_of_ble_eq_true rfl, Nat.le_of_ble_eq_true rfl⟩) rfl rfl (Nat.le_of_ble_eq_true rfl) dX3_makeWrite_39 ?_
      refine j_iconst X (v := (nI 1)) (by decide) dX3_makeWrite_42 ?_
      refine j_iadd X dX3_makeWrite_43 ?_
      obtain ⟨x3_5, ex3_5, hf⟩ := f_lt hf
      refine j_top ex3_5 ?_
      refine j_istore_n (lv' := [(0, .ref (ad 476)), (1, .int x1), (2, .int o3), (3, .int x3_5)]) X dX3_makeWrite_44 rfl (by decide) rfl ?_
      refine j_aload_n X 0 dX3_makeWrite_45 rfl rfl ?_
      refine j_get (ref := "ProxyVersions$Network") (index := 24) (v := .ref (ad 473)) X oNe inX3_makeWrite_X3 rfl 1 (by decide) (List.mem_of_getElem? (i := 2) rfl) rfl rfl dX3_makeWrite_46 ?_
      refine j_iload_n X 2 dX3_makeWrite_49 rfl rfl ?_
      obtain ⟨o6, ho6, hf⟩ := f_bd hf
      refine j_callVv X oCa rfl rfl [.int o3] (c_X0_findServed X.2.2.2.2.2.2.2 ho6) (cwV 1 X.2.2.2.2.1 gX3_makeWrite_X0_findServed rfl rfl rfl (by decide +kernel) ⟨Nat.le_of_ble_eq_true rfl, Nat.le_of_ble_eq_true rfl⟩) rfl rfl (Nat.le_of_ble_eq_true rfl) dX3_makeWrite_50 ?_
      refine j_iconst X (v := (nI 0)) (by decide) dX3_makeWrite_53 ?_
      refine j_istore (lv' := [(0, .ref (ad 476)), (1, .int x1), (2, .int o3), (3, .int x3_5), (4, .int (nI 0))]) X dX3_makeWrite_54 (by decide) rfl ?_
      refine t_X3_makeWrite_L56 X Y ?_ _ _ _ hf
      intro w7 hf
      refine j_aload_n X 0 dX3_makeWrite_100 rfl rfl ?_
      refine j_get (ref := "ProxyVersions$Network") (index := 20) (v := .ref (ad 50)) X oNe inX3_makeWrite_X3 rfl 0 (by decide) (List.mem_of_getElem? (i := 1) rfl) rfl rfl dX3_makeWrite_101 ?_
      refine j_iload_n X 1 dX3_makeWrite_104 rfl rfl ?_
      refine j_iload_n X 3 dX3_makeWrite_105 rfl rfl ?_
      obtain ⟨o8, ho8, hf⟩ := f_bd hf
      refine j_callVv X oS0 rfl rfl [.int x1, .int x3_5] (c_X5_setWrittenOf X.2.2.2.2.2.2.2 ho8) (cwV 2 X.2.2.2.2.1 gX3_makeWrite_X5_setWrittenOf rfl rfl rfl (by decide +kernel) ⟨Nat.le_of_ble_eq_true rfl, Nat.le_of_ble_eq_true rfl⟩) rfl rfl (Nat.le_of_ble_eq_true rfl) dX3_makeWrite_106 ?_
      refine j_aload_n X 0 dX3_makeWrite_109 rfl rfl ?_
      refine j_iload_n X 2 dX3_makeWrite_110 rfl rfl ?_
      refine j_iconst X (v := (-1 : Int32)) (by decide) dX3_makeWrite_111 ?_
      refine j_iload_n X 1 dX3_makeWrite_112 rfl rfl ?_
      refine j_iload_n X 3 dX3_makeWrite_113 rfl rfl ?_
      obtain ⟨o9, ho9, hf⟩ := f_bd hf
      refine j_callSNi X [.int x1, .int x3_5] (c_X7_updateOf X.2.2.2.2.2.2.2 ho9) ⟨va_cnB 2 X.2.2.2.2.1 gX3_makeWrite_X7_updateOf_n76 rfl rfl rfl (X.2.2.2.2.2.2.1.2 ("ProxyVersions$Network", 76, ⟨"ProxyVersions", "updateOf", "(II)I"⟩, "ProxyVersions") (List.mem_of_getElem? (i := 4) rfl)) (X.2.2.2.2.1 _ (List.mem_of_getElem? (i := 4) rfl)) (by decide +kernel) ⟨Nat.le_of_ble_eq_true rfl, Nat.le_of_ble_eq_true rfl⟩, X.2.2.2.2.1 _ (List.mem_of_getElem? (i := 50) rfl), trivial⟩ rfl rfl (Nat.le_of_ble_eq_true rfl) dX3_makeWrite_114 ?_
      obtain ⟨o10, ho10, hf⟩ := f_bd hf
      refine j_callVi X oNe rfl rfl [.int o3, .int (-1 : Int32), .int o9] (c_X3_arrive X.2.2.2.2.2.2.2 ho10) (cwV 3 X.2.2.2.2.1 gX3_makeWrite_X3_arrive rfl rfl rfl (by decide +kernel) ⟨Nat.le_of_ble_eq_true rfl, Nat.le_of_ble_eq_true rfl⟩) rfl rfl (Nat.le_of_ble_eq_true rfl) dX3_makeWrite_117 ?_
      refine j_pop X rfl dX3_makeWrite_120 ?_
      refine j_iload_n X 3 dX3_makeWrite_121 rfl rfl ?_
      exact j_iret X Y (f_p1 hf) (f_p2 hf) dX3_makeWrite_122
    replace hf := f_f c hf
    refine j_bipush X (v := (-3 : Int32)) (by decide) dX3_makeWrite_22 ?_
    exact j_iret X Y (f_p1 hf) (f_p2 hf) dX3_makeWrite_24
  replace hf := f_fn c hf
  refine j_iconst X (v := (-1 : Int32)) (by decide) dX3_makeWrite_7 ?_
  exact j_iret X Y (f_p1 hf) (f_p2 hf) dX3_makeWrite_8
abbrev rmX5_hasQueue : Room := { frames := 1, cells := 0, slots := 0, locals := 21 }
set_option maxRecDepth 100000 in
set_option maxHeartbeats 4000000 in
theorem t_X5_hasQueue_j17 (X : CX p rmX5_hasQueue s m args c cX5_hasQueue 3 RX5 wsX5_hasQueue D (tC cI cL cS) 490 ad) (Y : RX meth (some .boolean)) {w : Wd} {out : Int32} (hf : m_X5_hasQueue_j17 w = some out) : WJ p l e rmX5_hasQueue s m args below meth c (MQ below (QWi D 490 ad (cellC cI cL cS ad) out w) args s 0 0 (AW 490 ad)) 3 D 490 ad (cellC cI cL cS ad) w 17 [] [] := by
  unfold m_X5_hasQueue_j17 at hf
  refine j_iconst X (v := (nI 1)) (by decide) dX5_hasQueue_17 ?_
  refine j_goto (tgt := 22) X dX5_hasQueue_18 (by decide) ?_
  exact j_bret X Y (Eq.trans (by decide : (nI 1) &&& 1 = (nI 1)) (f_s hf)) rfl dX5_hasQueue_22
set_option maxRecDepth 100000 in
set_option maxHeartbeats 4000000 in
theorem c_X5_hasQueue (hI : Inj 490 ad) {x1 : Int32} {x2 : Int32} {w : Wd} {out : Int32} (hf : m_X5_hasQueue x1 x2 w = some out) : Met l yX5_hasQueue wsX5_hasQueue rmX5_hasQueue (va_Pc [.ref (ad 50), .int x1, .int x2] (PW D (tC cI cL cS) 490 ad (cellC cI cL cS ad) w)) (QWi D 490 ad (cellC cI cL cS ad) out w) 0 0 (AW 490 ad) := by
  refine mk_met (maxL := 3) (ret := (some .boolean)) RX5 hI (by decide) rfl rfl (Nat.le_of_ble_eq_true rfl) rfl rfl (fun p e s m args below meth c X Y => ?_)
  unfold m_X5_hasQueue at hf
  refine j_aload_n X 0 dX5_hasQueue_0 rfl rfl ?_
  refine j_iload_n X 1 dX5_hasQueue_1 rfl rfl ?_
  obtain ⟨o1, ho1, hf⟩ := f_bd hf
  refine j_callVi X oS0 rfl rfl [.int x1] (c_X5_hasChild X.2.2.2.2.2.2.2 ho1) (cwV 1 X.2.2.2.2.1 gX5_hasQueue_X5_hasChild rfl rfl rfl (by decide +kernel) ⟨Nat.le_of_ble_eq_true rfl, Nat.le_of_ble_eq_true rfl⟩) rfl rfl (Nat.le_of_ble_eq_true rfl) dX5_hasQueue_2 ?_
  refine j_if_eq (tgt := 21) X dX5_hasQueue_5 (by decide) (fun c => ?_) (fun c => ?_)
  · replace hf := f_t c hf
    refine j_iconst X (v := (nI 0)) (by decide) dX5_hasQueue_21 ?_
    exact j_bret X Y (Eq.trans (by decide : (nI 0) &&& 1 = (nI 0)) (f_s hf)) rfl dX5_hasQueue_22
  replace hf := f_f c hf
  refine j_iload_n X 2 dX5_hasQueue_8 rfl rfl ?_
  refine j_if_eq (tgt := 17) X dX5_hasQueue_9 (by decide) (fun c => ?_) (fun c => ?_)
  · replace hf := f_t c hf
    refine j_sub [] rfl ?_
    exact t_X5_hasQueue_j17 X Y hf
  replace hf := f_f c hf
  refine j_iload_n X 2 dX5_hasQueue_12 rfl rfl ?_
  refine j_iconst X (v := (nI 1)) (by decide) dX5_hasQueue_13 ?_
  refine j_icmp_ne (tgt := 21) X dX5_hasQueue_14 (by decide) (fun c => ?_) (fun c => ?_)
  · replace hf := f_t c hf
    refine j_iconst X (v := (nI 0)) (by decide) dX5_hasQueue_21 ?_
    exact j_bret X Y (Eq.trans (by decide : (nI 0) &&& 1 = (nI 0)) (f_s hf)) rfl dX5_hasQueue_22
  replace hf := f_fn c hf
  refine j_sub [] rfl ?_
  exact t_X5_hasQueue_j17 X Y hf
abbrev rmX3_isTakeable : Room := { frames := 0, cells := 0, slots := 0, locals := 0 }
set_option maxRecDepth 100000 in
set_option maxHeartbeats 4000000 in
theorem c_X3_isTakeable (hI : Inj 490 ad) {x0 : Int32} {w : Wd} {out : Int32} (hf : m_X3_isTakeable x0 = some out) : Met l yX3_isTakeable wsX3_isTakeable rmX3_isTakeable (va_Pc [.int x0] (PW D (tC cI cL cS) 490 ad (cellC cI cL cS ad) w)) (QWi D 490 ad (cellC cI cL cS ad) out w) 0 0 (AW 490 ad) := by
  refine mk_met (maxL := 1) (ret := (some .boolean)) RX3 hI (by decide) rfl rfl (Nat.le_of_ble_eq_true rfl) rfl rfl (fun p e s m args below meth c X Y => ?_)
  unfold m_X3_isTakeable at hf
  refine j_iload_n X 0 dX3_isTakeable_0 rfl rfl ?_
  refine j_iconst X (v := (nI 1)) (by decide) dX3_isTakeable_1 ?_
  refine j_icmp_lt (tgt := 15) X dX3_isTakeable_2 (by decide) (fun c => ?_) (fun c => ?_)
  · replace hf := f_t c hf
    refine j_iconst X (v := (nI 0)) (by decide) dX3_isTakeable_15 ?_
    exact j_bret X Y (Eq.trans (by decide : (nI 0) &&& 1 = (nI 0)) (f_s hf)) rfl dX3_isTakeable_16
  replace hf := f_f c hf
  refine j_iload_n X 0 dX3_isTakeable_5 rfl rfl ?_
  refine j_bipush X (v := (nI 9)) (by decide) dX3_isTakeable_6 ?_
  refine j_icmp_gt (tgt := 15) X dX3_isTakeable_8 (by decide) (fun c => ?_) (fun c => ?_)
  · replace hf := f_t c hf
    refine j_iconst X (v := (nI 0)) (by decide) dX3_isTakeable_15 ?_
    exact j_bret X Y (Eq.trans (by decide : (nI 0) &&& 1 = (nI 0)) (f_s hf)) rfl dX3_isTakeable_16
  replace hf := f_f c hf
  refine j_iconst X (v := (nI 1)) (by decide) dX3_isTakeable_11 ?_
  refine j_goto (tgt := 16) X dX3_isTakeable_12 (by decide) ?_
  exact j_bret X Y (Eq.trans (by decide : (nI 1) &&& 1 = (nI 1)) (f_s hf)) rfl dX3_isTakeable_16
abbrev rmX3_deliverFirst : Room := { frames := 4, cells := 0, slots := 0, locals := 99 }
theorem inX3_deliverFirst_X3 : ∀ w ∈ wsX30, w ∈ wsX3_deliverFirst := fun _ h => List.mem_cons_of_mem _ (List.mem_append_left _ (List.mem_append_left _ (List.mem_append_left _ (List.mem_append_right _ h))))
set_option maxRecDepth 100000 in
set_option maxHeartbeats 4000000 in
theorem t_X3_deliverFirst_j127 (X : CX p rmX3_deliverFirst s m args c cX3_deliverFirst 11 RX3 wsX3_deliverFirst D (tC cI cL cS) 490 ad) (Y : RX meth (some .int)) {q4 : Nat} {x3 : Int32} {x6 : Int32} {x7 : Int32} {x8 : Int32} {x9 : Int32} {w : Wd} {kc : Int32 → Int32 → Wd → Option (Int32 × Wd)} {out : Int32 × Wd} (hq4 : isLn q4) (hf : m_X3_deliverFirst_j127 q4 x3 x6 x7 x8 x9 w kc = some out) (hk_kc : ∀ (y8 : Int32) (y9 : Int32) (v : Wd), kc y8 y9 v = some out → WJ p l e rmX3_deliverFirst s m args below meth c (MQ below (QWi D 490 ad (cellC cI cL cS ad) out.1 out.2) args s 0 0 (AW 490 ad)) 11 D 490 ad (cellC cI cL cS ad) v 83 [(0, .ref (ad 476)), (3, .int x3), (4, .ref (ad q4)), (6, .int x6), (7, .int x7), (8, .int y8), (9, .int y9)] []) : WJ p l e rmX3_deliverFirst s m args below meth c (MQ below (QWi D 490 ad (cellC cI cL cS ad) out.1 out.2) args s 0 0 (AW 490 ad)) 11 D 490 ad (cellC cI cL cS ad) w 127 [(0, .ref (ad 476)), (3, .int x3), (4, .ref (ad q4)), (6, .int x6), (7, .int x7), (8, .int x8), (9, .int x9)] [] := by
  unfold m_X3_deliverFirst_j127 at hf
  refine j_iinc (v := (x9 + (nI 1))) (lv' := [(0, .ref (ad 476)), (3, .int x3), (4, .ref (ad q4)), (6, .int x6), (7, .int x7), (8, .int x8), (9, .int (x9 + (nI 1)))]) X 6 dX3_deliverFirst_127 rfl rfl (by decide) rfl ?_
  refine j_goto (tgt := 83) X dX3_deliverFirst_130 (by decide) ?_
  exact hk_kc _ _ _ hf
set_option maxRecDepth 100000 in
set_option maxHeartbeats 4000000 in
theorem t_X3_deliverFirst_L83 (X : CX p rmX3_deliverFirst s m args c cX3_deliverFirst 11 RX3 wsX3_deliverFirst D (tC cI cL cS) 490 ad) (Y : RX meth (some .int)) {q4 : Nat} {x3 : Int32} {x6 : Int32} {x7 : Int32} {out : Int32 × Wd} (hq4 : isLn q4) : ∀ (n : Nat) (x8 : Int32) (x9 : Int32) (w : Wd), m_X3_deliverFirst_L83 q4 x3 x6 x7 n x8 x9 w = some out → WJ p l e rmX3_deliverFirst s m args below meth c (MQ below (QWi D 490 ad (cellC cI cL cS ad) out.1 out.2) args s 0 0 (AW 490 ad)) 11 D 490 ad (cellC cI cL cS ad) w 83 [(0, .ref (ad 476)), (3, .int x3), (4, .ref (ad q4)), (6, .int x6), (7, .int x7), (8, .int x8), (9, .int x9)] [] := by
  intro n
  induction n with
  | zero => intro x8 x9 w hf; exact f_n hf
  | succ n ih =>
    intro x8 x9 w hf
    rw [m_X3_deliverFirst_L83] at hf
    refine j_iload X 6 dX3_deliverFirst_83 rfl ?_
    refine j_iload_n X 1 dX3_deliverFirst_85 rfl rfl ?_
    refine j_icmp_ge (tgt := 133) X dX3_deliverFirst_86 (by decide) (fun c => ?_) (fun c => ?_)
    · replace hf := f_t c hf
      refine j_iload X 5 dX3_deliverFirst_133 rfl ?_
      exact j_iret X Y (f_p1 hf) (f_p2 hf) dX3_deliverFirst_135
    replace hf := f_f c hf
    refine j_aload X 2 dX3_deliverFirst_89 rfl ?_
    obtain ⟨o1, ho1, hf⟩ := f_bd hf
    refine j_callVi X (oLn hq4) rfl rfl [] (c_X2_length X.2.2.2.2.2.2.2 hq4 ho1) (cwV 0 X.2.2.2.2.1 gX3_deliverFirst_X2_length rfl rfl rfl (by decide +kernel) ⟨Nat.le_of_ble_eq_true rfl, Nat.le_of_ble_eq_true rfl⟩) rfl rfl (Nat.le_of_ble_eq_true rfl) dX3_deliverFirst_91 ?_
    refine j_if_le (tgt := 133) X dX3_deliverFirst_94 (by decide) (fun c => ?_) (fun c => ?_)
    · replace hf := f_t c hf
      refine j_iload X 5 dX3_deliverFirst_133 rfl ?_
      exact j_iret X Y (f_p1 hf) (f_p2 hf) dX3_deliverFirst_135
    replace hf := f_f c hf
    refine j_aload X 2 dX3_deliverFirst_97 rfl ?_
    refine j_iconst X (v := (nI 0)) (by decide) dX3_deliverFirst_99 ?_
    obtain ⟨o2, ho2, hf⟩ := f_bd hf
    refine j_callVi X (oLn hq4) rfl rfl [.int (nI 0)] (c_X2_at X.2.2.2.2.2.2.2 hq4 ho2) (cwV 1 X.2.2.2.2.1 gX3_deliverFirst_X2_at rfl rfl rfl (by decide +kernel) ⟨Nat.le_of_ble_eq_true rfl, Nat.le_of_ble_eq_true rfl⟩) rfl rfl (Nat.le_of_ble_eq_true rfl) dX3_deliverFirst_100 ?_
    refine j_istore (lv' := [(0, .ref (ad 476)), (3, .int x3), (4, .ref (ad q4)), (6, .int x6), (7, .int x7), (8, .int x8), (9, .int x9), (10, .int o2)]) X dX3_deliverFirst_103 (by decide) rfl ?_
    refine j_aload X 2 dX3_deliverFirst_105 rfl ?_
    refine j_iconst X (v := (nI 0)) (by decide) dX3_deliverFirst_107 ?_
    obtain ⟨o3, ho3, hf⟩ := f_bd hf
    refine j_callVv X (oLn hq4) rfl rfl [.int (nI 0)] (c_X2_removeAt X.2.2.2.2.2.2.2 hq4 ho3) (cwV 1 X.2.2.2.2.1 gX3_deliverFirst_X2_removeAt rfl rfl rfl (by decide +kernel) ⟨Nat.le_of_ble_eq_true rfl, Nat.le_of_ble_eq_true rfl⟩) rfl rfl (Nat.le_of_ble_eq_true rfl) dX3_deliverFirst_108 ?_
    refine j_aload_n X 0 dX3_deliverFirst_111 rfl rfl ?_
    refine j_iload X 3 dX3_deliverFirst_112 rfl ?_
    refine j_iload X 4 dX3_deliverFirst_114 rfl ?_
    refine j_iload X 7 dX3_deliverFirst_116 rfl ?_
    obtain ⟨o4, ho4, hf⟩ := f_bd hf
    refine j_callVi X oNe rfl rfl [.int x6, .int x7, .int o2] (c_X3_arrive X.2.2.2.2.2.2.2 ho4) (cwV 3 X.2.2.2.2.1 gX3_deliverFirst_X3_arrive rfl rfl rfl (by decide +kernel) ⟨Nat.le_of_ble_eq_true rfl, Nat.le_of_ble_eq_true rfl⟩) rfl rfl (Nat.le_of_ble_eq_true rfl) dX3_deliverFirst_118 ?_
    refine j_if_eq (tgt := 127) X dX3_deliverFirst_121 (by decide) (fun c => ?_) (fun c => ?_)
    · replace hf := f_t c hf
      refine j_sub [0, 1, 2, 3, 4, 5, 6] rfl ?_
      exact t_X3_deliverFirst_j127 X Y hq4 hf ih
    replace hf := f_f c hf
    refine j_iinc (v := (x8 + (nI 1))) (lv' := [(0, .ref (ad 476)), (3, .int x3), (4, .ref (ad q4)), (6, .int x6), (7, .int x7), (8, .int (x8 + (nI 1))), (9, .int x9), (10, .int o2)]) X 5 dX3_deliverFirst_124 rfl rfl (by decide) rfl ?_
    refine j_sub [0, 1, 2, 3, 4, 5, 6] rfl ?_
    exact t_X3_deliverFirst_j127 X Y hq4 hf ih
set_option maxRecDepth 100000 in
set_option maxHeartbeats 4000000 in
theorem t_X3_deliverFirst_j75 (X : CX p rmX3_deliverFirst s m args c cX3_deliverFirst 11 RX3 wsX3_deliverFirst D (tC cI cL cS) 490 ad) (Y : RX meth (some .int)) {q4 : Nat} {x3 : Int32} {x6 : Int32} {s0 : Int32} {w : Wd} {out : Int32 × Wd} (hq4 : isLn q4) (hf : m_X3_deliverFirst_j75 q4 x3 x6 s0 w = some out) : WJ p l e rmX3_deliverFirst s m args below meth c (MQ below (QWi D 490 ad (cellC cI cL cS ad) out.1 out.2) args s 0 0 (AW 490 ad)) 11 D 490 ad (cellC cI cL cS ad) w 75 [(0, .ref (ad 476)), (3, .int x3), (4, .ref (ad q4)), (6, .int x6)] [.int s0] := by
  unfold m_X3_deliverFirst_j75 at hf
  refine j_istore (lv' := [(0, .ref (ad 476)), (3, .int x3), (4, .ref (ad q4)), (6, .int x6), (7, .int s0)]) X dX3_deliverFirst_75 (by decide) rfl ?_
  refine j_iconst X (v := (nI 0)) (by decide) dX3_deliverFirst_77 ?_
  refine j_istore (lv' := [(0, .ref (ad 476)), (3, .int x3), (4, .ref (ad q4)), (6, .int x6), (7, .int s0), (8, .int (nI 0))]) X dX3_deliverFirst_78 (by decide) rfl ?_
  refine j_iconst X (v := (nI 0)) (by decide) dX3_deliverFirst_80 ?_
  refine j_istore (lv' := [(0, .ref (ad 476)), (3, .int x3), (4, .ref (ad q4)), (6, .int x6), (7, .int s0), (8, .int (nI 0)), (9, .int (nI 0))]) X dX3_deliverFirst_81 (by decide) rfl ?_
  refine t_X3_deliverFirst_L83 X Y hq4 _ _ _ _ hf
set_option maxRecDepth 100000 in
set_option maxHeartbeats 4000000 in
theorem t_X3_deliverFirst_j63 (X : CX p rmX3_deliverFirst s m args c cX3_deliverFirst 11 RX3 wsX3_deliverFirst D (tC cI cL cS) 490 ad) (Y : RX meth (some .int)) {q4 : Nat} {x1 : Int32} {x2 : Int32} {x3 : Int32} {x5 : Int32} {s0 : Int32} {w : Wd} {out : Int32 × Wd} (hq4 : isLn q4) (hf : m_X3_deliverFirst_j63 q4 x1 x2 x3 x5 s0 w = some out) : WJ p l e rmX3_deliverFirst s m args below meth c (MQ below (QWi D 490 ad (cellC cI cL cS ad) out.1 out.2) args s 0 0 (AW 490 ad)) 11 D 490 ad (cellC cI cL cS ad) w 63 [(0, .ref (ad 476)), (1, .int x1), (2, .int x2), (3, .int x3), (4, .ref (ad q4)), (5, .int x5)] [.int s0] := by
  unfold m_X3_deliverFirst_j63 at hf
  refine j_istore (lv' := [(0, .ref (ad 476)), (1, .int x1), (2, .int x2), (3, .int x3), (4, .ref (ad q4)), (5, .int x5), (6, .int s0)]) X dX3_deliverFirst_63 (by decide) rfl ?_
  refine j_iload_n X 2 dX3_deliverFirst_65 rfl rfl ?_
  refine j_if_ne (tgt := 73) X dX3_deliverFirst_66 (by decide) (fun c => ?_) (fun c => ?_)
  · replace hf := f_t c hf
    refine j_iload X 5 dX3_deliverFirst_73 rfl ?_
    refine j_sub [0, 3, 4, 6] rfl ?_
    exact t_X3_deliverFirst_j75 X Y hq4 hf
  replace hf := f_fn c hf
  refine j_iload_n X 1 dX3_deliverFirst_69 rfl rfl ?_
  refine j_goto (tgt := 75) X dX3_deliverFirst_70 (by decide) ?_
  refine j_sub [0, 3, 4, 6] rfl ?_
  exact t_X3_deliverFirst_j75 X Y hq4 hf
set_option maxRecDepth 100000 in
set_option maxHeartbeats 4000000 in
theorem c_X3_deliverFirst (hI : Inj 490 ad) {x1 : Int32} {x2 : Int32} {x3 : Int32} {w : Wd} {out : Int32 × Wd} (hf : m_X3_deliverFirst x1 x2 x3 w = some out) : Met l yX3_deliverFirst wsX3_deliverFirst rmX3_deliverFirst (va_Pc [.ref (ad 476), .int x1, .int x2, .int x3] (PW D (tC cI cL cS) 490 ad (cellC cI cL cS ad) w)) (QWi D 490 ad (cellC cI cL cS ad) out.1 out.2) 0 0 (AW 490 ad) := by
  refine mk_met (maxL := 11) (ret := (some .int)) RX3 hI (by decide) rfl rfl (Nat.le_of_ble_eq_true rfl) rfl rfl (fun p e s m args below meth c X Y => ?_)
  unfold m_X3_deliverFirst at hf
  refine j_aload_n X 0 dX3_deliverFirst_0 rfl rfl ?_
  refine j_get (ref := "ProxyVersions$Network") (index := 20) (v := .ref (ad 50)) X oNe inX3_deliverFirst_X3 rfl 0 (by decide) (List.mem_of_getElem? (i := 1) rfl) rfl rfl dX3_deliverFirst_1 ?_
  refine j_iload_n X 1 dX3_deliverFirst_4 rfl rfl ?_
  refine j_iload_n X 2 dX3_deliverFirst_5 rfl rfl ?_
  obtain ⟨o1, ho1, hf⟩ := f_bd hf
  refine j_callVi X oS0 rfl rfl [.int x1, .int x2] (c_X5_hasQueue X.2.2.2.2.2.2.2 ho1) (cwV 2 X.2.2.2.2.1 gX3_deliverFirst_X5_hasQueue rfl rfl rfl (by decide +kernel) ⟨Nat.le_of_ble_eq_true rfl, Nat.le_of_ble_eq_true rfl⟩) rfl rfl (Nat.le_of_ble_eq_true rfl) dX3_deliverFirst_6 ?_
  refine j_if_eq (tgt := 19) X dX3_deliverFirst_9 (by decide) (fun c => ?_) (fun c => ?_)
  · replace hf := f_t c hf
    refine j_iconst X (v := (-1 : Int32)) (by decide) dX3_deliverFirst_19 ?_
    exact j_iret X Y (f_p1 hf) (f_p2 hf) dX3_deliverFirst_20
  replace hf := f_f c hf
  refine j_iload_n X 3 dX3_deliverFirst_12 rfl rfl ?_
  obtain ⟨o2, ho2, hf⟩ := f_bd hf
  refine j_callSi X [.int x3] (c_X3_isTakeable X.2.2.2.2.2.2.2 ho2) (va_cwS 1 X.2.2.2.2.1 gX3_deliverFirst_X3_isTakeable rfl rfl rfl (by decide +kernel) ⟨Nat.le_of_ble_eq_true rfl, Nat.le_of_ble_eq_true rfl⟩) rfl rfl (Nat.le_of_ble_eq_true rfl) dX3_deliverFirst_13 ?_
  refine j_if_ne (tgt := 21) X dX3_deliverFirst_16 (by decide) (fun c => ?_) (fun c => ?_)
  · replace hf := f_t c hf
    refine j_aload_n X 0 dX3_deliverFirst_21 rfl rfl ?_
    refine j_get (ref := "ProxyVersions$Network") (index := 20) (v := .ref (ad 50)) X oNe inX3_deliverFirst_X3 rfl 0 (by decide) (List.mem_of_getElem? (i := 1) rfl) rfl rfl dX3_deliverFirst_22 ?_
    refine j_iload_n X 1 dX3_deliverFirst_25 rfl rfl ?_
    refine j_iload_n X 2 dX3_deliverFirst_26 rfl rfl ?_
    obtain ⟨o3, ho3, hf⟩ := f_bd hf
    refine j_callVr X oS0 rfl rfl [.int x1, .int x2] (c_X5_queueOf X.2.2.2.2.2.2.2 ho3) (cwV 2 X.2.2.2.2.1 gX3_deliverFirst_X5_queueOf rfl rfl rfl (by decide +kernel) ⟨Nat.le_of_ble_eq_true rfl, Nat.le_of_ble_eq_true rfl⟩) rfl rfl (Nat.le_of_ble_eq_true rfl) dX3_deliverFirst_27 ?_
    have hlo3 := ln_X5_queueOf ho3
    refine j_astore (lv' := [(0, .ref (ad 476)), (1, .int x1), (2, .int x2), (3, .int x3), (4, .ref (ad o3))]) X dX3_deliverFirst_30 (by decide) rfl ?_
    refine j_aload X 4 dX3_deliverFirst_32 rfl ?_
    obtain ⟨o4, ho4, hf⟩ := f_bd hf
    refine j_callVi X (oLn hlo3) rfl rfl [] (c_X2_length X.2.2.2.2.2.2.2 hlo3 ho4) (cwV 0 X.2.2.2.2.1 gX3_deliverFirst_X2_length rfl rfl rfl (by decide +kernel) ⟨Nat.le_of_ble_eq_true rfl, Nat.le_of_ble_eq_true rfl⟩) rfl rfl (Nat.le_of_ble_eq_true rfl) dX3_deliverFirst_34 ?_
    refine j_if_ne (tgt := 43) X dX3_deliverFirst_37 (by decide) (fun c => ?_) (fun c => ?_)
    · replace hf := f_t c hf
      refine j_aload_n X 0 dX3_deliverFirst_43 rfl rfl ?_
      refine j_get (ref := "ProxyVersions$Network") (index := 20) (v := .ref (ad 50)) X oNe inX3_deliverFirst_X3 rfl 0 (by decide) (List.mem_of_getElem? (i := 1) rfl) rfl rfl dX3_deliverFirst_44 ?_
      refine j_iload_n X 1 dX3_deliverFirst_47 rfl rfl ?_
      obtain ⟨o5, ho5, hf⟩ := f_bd hf
      refine j_callVi X oS0 rfl rfl [.int x1] (c_X5_parentOf X.2.2.2.2.2.2.2 ho5) (cwV 1 X.2.2.2.2.1 gX3_deliverFirst_X5_parentOf rfl rfl rfl (by decide +kernel) ⟨Nat.le_of_ble_eq_true rfl, Nat.le_of_ble_eq_true rfl⟩) rfl rfl (Nat.le_of_ble_eq_true rfl) dX3_deliverFirst_48 ?_
      refine j_istore (lv' := [(0, .ref (ad 476)), (1, .int x1), (2, .int x2), (3, .int x3), (4, .ref (ad o3)), (5, .int o5)]) X dX3_deliverFirst_51 (by decide) rfl ?_
      refine j_iload_n X 2 dX3_deliverFirst_53 rfl rfl ?_
      refine j_if_ne (tgt := 62) X dX3_deliverFirst_54 (by decide) (fun c => ?_) (fun c => ?_)
      · replace hf := f_t c hf
        refine j_iload_n X 1 dX3_deliverFirst_62 rfl rfl ?_
        exact t_X3_deliverFirst_j63 X Y hlo3 hf
      replace hf := f_fn c hf
      refine j_iload X 5 dX3_deliverFirst_57 rfl ?_
      refine j_goto (tgt := 63) X dX3_deliverFirst_59 (by decide) ?_
      exact t_X3_deliverFirst_j63 X Y hlo3 hf
    replace hf := f_fn c hf
    refine j_bipush X (v := (-2 : Int32)) (by decide) dX3_deliverFirst_40 ?_
    exact j_iret X Y (f_p1 hf) (f_p2 hf) dX3_deliverFirst_42
  replace hf := f_fn c hf
  refine j_iconst X (v := (-1 : Int32)) (by decide) dX3_deliverFirst_19 ?_
  exact j_iret X Y (f_p1 hf) (f_p2 hf) dX3_deliverFirst_20
abbrev rmX3_loseFirst : Room := { frames := 2, cells := 0, slots := 0, locals := 60 }
theorem inX3_loseFirst_X3 : ∀ w ∈ wsX30, w ∈ wsX3_loseFirst := fun _ h => List.mem_cons_of_mem _ (List.mem_append_left _ (List.mem_append_left _ (List.mem_append_right _ h)))
theorem inX3_loseFirst_X5 : ∀ w ∈ wsX50, w ∈ wsX3_loseFirst := fun _ h => List.mem_cons_of_mem _ (List.mem_append_left _ (List.mem_append_right _ h))
set_option maxRecDepth 100000 in
set_option maxHeartbeats 4000000 in
theorem t_X3_loseFirst_L57 (X : CX p rmX3_loseFirst s m args c cX3_loseFirst 7 RX3 wsX3_loseFirst D (tC cI cL cS) 490 ad) (Y : RX meth (some .int)) {q4 : Nat} {x5 : Int32} {kx76 : Wd → Option (Int32 × Wd)} {out : Int32 × Wd} (hq4 : isLn q4) (hk_kx76 : ∀  (v : Wd), kx76 v = some out → WJ p l e rmX3_loseFirst s m args below meth c (MQ below (QWi D 490 ad (cellC cI cL cS ad) out.1 out.2) args s 0 0 (AW 490 ad)) 7 D 490 ad (cellC cI cL cS ad) v 76 [(0, .ref (ad 476)), (5, .int x5)] []) : ∀ (n : Nat) (x6 : Int32) (w : Wd), m_X3_loseFirst_L57 q4 x5 kx76 n x6 w = some out → WJ p l e rmX3_loseFirst s m args below meth c (MQ below (QWi D 490 ad (cellC cI cL cS ad) out.1 out.2) args s 0 0 (AW 490 ad)) 7 D 490 ad (cellC cI cL cS ad) w 57 [(0, .ref (ad 476)), (4, .ref (ad q4)), (5, .int x5), (6, .int x6)] [] := by
  intro n
  induction n with
  | zero => intro x6 w hf; exact f_n hf
  | succ n ih =>
    intro x6 w hf
    rw [m_X3_loseFirst_L57] at hf
    refine j_iload X 3 dX3_loseFirst_57 rfl ?_
    refine j_iload X 2 dX3_loseFirst_59 rfl ?_
    refine j_icmp_ge (tgt := 76) X dX3_loseFirst_61 (by decide) (fun c => ?_) (fun c => ?_)
    · replace hf := f_t c hf
      refine j_sub [0, 2] rfl ?_
      exact hk_kx76 _ hf
    replace hf := f_f c hf
    refine j_aload X 1 dX3_loseFirst_64 rfl ?_
    refine j_iconst X (v := (nI 0)) (by decide) dX3_loseFirst_66 ?_
    obtain ⟨o1, ho1, hf⟩ := f_bd hf
    refine j_callVv X (oLn hq4) rfl rfl [.int (nI 0)] (c_X2_removeAt X.2.2.2.2.2.2.2 hq4 ho1) (cwV 1 X.2.2.2.2.1 gX3_loseFirst_X2_removeAt rfl rfl rfl (by decide +kernel) ⟨Nat.le_of_ble_eq_true rfl, Nat.le_of_ble_eq_true rfl⟩) rfl rfl (Nat.le_of_ble_eq_true rfl) dX3_loseFirst_67 ?_
    refine j_iinc (v := (x6 + (nI 1))) (lv' := [(0, .ref (ad 476)), (4, .ref (ad q4)), (5, .int x5), (6, .int (x6 + (nI 1)))]) X 3 dX3_loseFirst_70 rfl rfl (by decide) rfl ?_
    refine j_goto (tgt := 57) X dX3_loseFirst_73 (by decide) ?_
    exact ih _ _ hf
set_option maxRecDepth 100000 in
set_option maxHeartbeats 4000000 in
theorem c_X3_loseFirst (hI : Inj 490 ad) {x1 : Int32} {x2 : Int32} {x3 : Int32} {w : Wd} {out : Int32 × Wd} (hf : m_X3_loseFirst x1 x2 x3 w = some out) : Met l yX3_loseFirst wsX3_loseFirst rmX3_loseFirst (va_Pc [.ref (ad 476), .int x1, .int x2, .int x3] (PW D (tC cI cL cS) 490 ad (cellC cI cL cS ad) w)) (QWi D 490 ad (cellC cI cL cS ad) out.1 out.2) 0 0 (AW 490 ad) := by
  refine mk_met (maxL := 7) (ret := (some .int)) RX3 hI (by decide) rfl rfl (Nat.le_of_ble_eq_true rfl) rfl rfl (fun p e s m args below meth c X Y => ?_)
  unfold m_X3_loseFirst at hf
  refine j_aload_n X 0 dX3_loseFirst_0 rfl rfl ?_
  refine j_get (ref := "ProxyVersions$Network") (index := 20) (v := .ref (ad 50)) X oNe inX3_loseFirst_X3 rfl 0 (by decide) (List.mem_of_getElem? (i := 1) rfl) rfl rfl dX3_loseFirst_1 ?_
  refine j_iload_n X 1 dX3_loseFirst_4 rfl rfl ?_
  refine j_iload_n X 2 dX3_loseFirst_5 rfl rfl ?_
  obtain ⟨o1, ho1, hf⟩ := f_bd hf
  refine j_callVi X oS0 rfl rfl [.int x1, .int x2] (c_X5_hasQueue X.2.2.2.2.2.2.2 ho1) (cwV 2 X.2.2.2.2.1 gX3_loseFirst_X5_hasQueue rfl rfl rfl (by decide +kernel) ⟨Nat.le_of_ble_eq_true rfl, Nat.le_of_ble_eq_true rfl⟩) rfl rfl (Nat.le_of_ble_eq_true rfl) dX3_loseFirst_6 ?_
  refine j_if_eq (tgt := 19) X dX3_loseFirst_9 (by decide) (fun c => ?_) (fun c => ?_)
  · replace hf := f_t c hf
    refine j_iconst X (v := (-1 : Int32)) (by decide) dX3_loseFirst_19 ?_
    exact j_iret X Y (f_p1 hf) (f_p2 hf) dX3_loseFirst_20
  replace hf := f_f c hf
  refine j_iload_n X 3 dX3_loseFirst_12 rfl rfl ?_
  obtain ⟨o2, ho2, hf⟩ := f_bd hf
  refine j_callSi X [.int x3] (c_X3_isTakeable X.2.2.2.2.2.2.2 ho2) (va_cwS 1 X.2.2.2.2.1 gX3_loseFirst_X3_isTakeable rfl rfl rfl (by decide +kernel) ⟨Nat.le_of_ble_eq_true rfl, Nat.le_of_ble_eq_true rfl⟩) rfl rfl (Nat.le_of_ble_eq_true rfl) dX3_loseFirst_13 ?_
  refine j_if_ne (tgt := 21) X dX3_loseFirst_16 (by decide) (fun c => ?_) (fun c => ?_)
  · replace hf := f_t c hf
    refine j_aload_n X 0 dX3_loseFirst_21 rfl rfl ?_
    refine j_get (ref := "ProxyVersions$Network") (index := 20) (v := .ref (ad 50)) X oNe inX3_loseFirst_X3 rfl 0 (by decide) (List.mem_of_getElem? (i := 1) rfl) rfl rfl dX3_loseFirst_22 ?_
    refine j_iload_n X 1 dX3_loseFirst_25 rfl rfl ?_
    refine j_iload_n X 2 dX3_loseFirst_26 rfl rfl ?_
    obtain ⟨o3, ho3, hf⟩ := f_bd hf
    refine j_callVr X oS0 rfl rfl [.int x1, .int x2] (c_X5_queueOf X.2.2.2.2.2.2.2 ho3) (cwV 2 X.2.2.2.2.1 gX3_loseFirst_X5_queueOf rfl rfl rfl (by decide +kernel) ⟨Nat.le_of_ble_eq_true rfl, Nat.le_of_ble_eq_true rfl⟩) rfl rfl (Nat.le_of_ble_eq_true rfl) dX3_loseFirst_27 ?_
    have hlo3 := ln_X5_queueOf ho3
    refine j_astore (lv' := [(0, .ref (ad 476)), (1, .int x1), (2, .int x2), (3, .int x3), (4, .ref (ad o3))]) X dX3_loseFirst_30 (by decide) rfl ?_
    refine j_aload X 4 dX3_loseFirst_32 rfl ?_
    obtain ⟨o4, ho4, hf⟩ := f_bd hf
    refine j_callVi X (oLn hlo3) rfl rfl [] (c_X2_length X.2.2.2.2.2.2.2 hlo3 ho4) (cwV 0 X.2.2.2.2.1 gX3_loseFirst_X2_length rfl rfl rfl (by decide +kernel) ⟨Nat.le_of_ble_eq_true rfl, Nat.le_of_ble_eq_true rfl⟩) rfl rfl (Nat.le_of_ble_eq_true rfl) dX3_loseFirst_34 ?_
    refine j_if_ne (tgt := 43) X dX3_loseFirst_37 (by decide) (fun c => ?_) (fun c => ?_)
    · replace hf := f_t c hf
      refine j_iload_n X 3 dX3_loseFirst_43 rfl rfl ?_
      refine j_aload X 4 dX3_loseFirst_44 rfl ?_
      obtain ⟨o5, ho5, hf⟩ := f_bd hf
      refine j_callVi X (oLn hlo3) rfl rfl [] (c_X2_length X.2.2.2.2.2.2.2 hlo3 ho5) (cwV 0 X.2.2.2.2.1 gX3_loseFirst_X2_length rfl rfl rfl (by decide +kernel) ⟨Nat.le_of_ble_eq_true rfl, Nat.le_of_ble_eq_true rfl⟩) rfl rfl (Nat.le_of_ble_eq_true rfl) dX3_loseFirst_46 ?_
      refine j_mmin X (List.mem_of_getElem? (i := 2) rfl) (List.mem_of_getElem? (i := 3) rfl) (List.mem_of_getElem? (i := 4) rfl) (List.mem_of_getElem? (i := 5) rfl) (Nat.le_of_ble_eq_true rfl) (Nat.le_of_ble_eq_true rfl) dX3_loseFirst_49 ?_
      obtain ⟨x5_6, ex5_6, hf⟩ := f_lt hf
      refine j_top ex5_6 ?_
      refine j_istore (lv' := [(0, .ref (ad 476)), (1, .int x1), (2, .int x2), (3, .int x3), (4, .ref (ad o3)), (5, .int x5_6)]) X dX3_loseFirst_52 (by decide) rfl ?_
      refine j_iconst X (v := (nI 0)) (by decide) dX3_loseFirst_54 ?_
      refine j_istore (lv' := [(0, .ref (ad 476)), (1, .int x1), (2, .int x2), (3, .int x3), (4, .ref (ad o3)), (5, .int x5_6), (6, .int (nI 0))]) X dX3_loseFirst_55 (by decide) rfl ?_
      refine j_sub [0, 4, 5, 6] rfl ?_
      refine t_X3_loseFirst_L57 X Y hlo3 ?_ _ _ _ hf
      intro w7 hf
      refine j_aload_n X 0 dX3_loseFirst_76 rfl rfl ?_
      refine j_get (ref := "ProxyVersions$Network") (index := 20) (v := .ref (ad 50)) X oNe inX3_loseFirst_X3 rfl 0 (by decide) (List.mem_of_getElem? (i := 1) rfl) rfl rfl dX3_loseFirst_77 ?_
      refine j_dup X rfl dX3_loseFirst_80 ?_
      refine j_getN (ref := "ProxyVersions$State") (index := 113) (host := "ProxyVersions") (v := .int (w7 50 5)) X oS0 inX3_loseFirst_X5 rfl 5 (by decide) (List.mem_of_getElem? (i := 7) rfl) rfl rfl dX3_loseFirst_81 ?_
      refine j_iload X 1 dX3_loseFirst_84 rfl ?_
      refine j_iadd X dX3_loseFirst_86 ?_
      obtain ⟨w8, ew8, hf⟩ := f_lt hf
      refine j_putN (ref := "ProxyVersions$State") (index := 113) (host := "ProxyVersions")  X oS0 inX3_loseFirst_X5 tyX5_ok nmX5 rfl 5 (by decide) (List.mem_of_getElem? (i := 7) rfl) rfl rfl rfl (Nat.le_of_ble_eq_true rfl) rfl dX3_loseFirst_87 ew8 ?_
      refine j_iload X 1 dX3_loseFirst_90 rfl ?_
      exact j_iret X Y (f_p1 hf) (f_p2 hf) dX3_loseFirst_92
    replace hf := f_fn c hf
    refine j_bipush X (v := (-2 : Int32)) (by decide) dX3_loseFirst_40 ?_
    exact j_iret X Y (f_p1 hf) (f_p2 hf) dX3_loseFirst_42
  replace hf := f_fn c hf
  refine j_iconst X (v := (-1 : Int32)) (by decide) dX3_loseFirst_19 ?_
  exact j_iret X Y (f_p1 hf) (f_p2 hf) dX3_loseFirst_20
abbrev rmX5_wasWritten : Room := { frames := 1, cells := 0, slots := 0, locals := 21 }
set_option maxRecDepth 100000 in
set_option maxHeartbeats 4000000 in
theorem c_X5_wasWritten (hI : Inj 490 ad) {x1 : Int32} {x2 : Int32} {w : Wd} {out : Int32} (hf : m_X5_wasWritten x1 x2 w = some out) : Met l yX5_wasWritten wsX5_wasWritten rmX5_wasWritten (va_Pc [.ref (ad 50), .int x1, .int x2] (PW D (tC cI cL cS) 490 ad (cellC cI cL cS ad) w)) (QWi D 490 ad (cellC cI cL cS ad) out w) 0 0 (AW 490 ad) := by
  refine mk_met (maxL := 3) (ret := (some .boolean)) RX5 hI (by decide) rfl rfl (Nat.le_of_ble_eq_true rfl) rfl rfl (fun p e s m args below meth c X Y => ?_)
  unfold m_X5_wasWritten at hf
  refine j_iload_n X 1 dX5_wasWritten_0 rfl rfl ?_
  obtain ⟨o1, ho1, hf⟩ := f_bd hf
  refine j_callSNi X [.int x1] (c_X7_isOrigin X.2.2.2.2.2.2.2 ho1) ⟨va_cnB 1 X.2.2.2.2.1 gX5_wasWritten_X7_isOrigin_n90 rfl rfl rfl (X.2.2.2.2.2.2.1.2 ("ProxyVersions$State", 90, ⟨"ProxyVersions", "isOrigin", "(I)Z"⟩, "ProxyVersions") (List.mem_of_getElem? (i := 5) rfl)) (X.2.2.2.2.1 _ (List.mem_of_getElem? (i := 2) rfl)) (by decide +kernel) ⟨Nat.le_of_ble_eq_true rfl, Nat.le_of_ble_eq_true rfl⟩, X.2.2.2.2.1 _ (List.mem_of_getElem? (i := 1) rfl), trivial⟩ rfl rfl (Nat.le_of_ble_eq_true rfl) dX5_wasWritten_1 ?_
  refine j_if_eq (tgt := 25) X dX5_wasWritten_4 (by decide) (fun c => ?_) (fun c => ?_)
  · replace hf := f_t c hf
    refine j_iconst X (v := (nI 0)) (by decide) dX5_wasWritten_25 ?_
    exact j_bret X Y (Eq.trans (by decide : (nI 0) &&& 1 = (nI 0)) (f_s hf)) rfl dX5_wasWritten_26
  replace hf := f_f c hf
  refine j_iload_n X 2 dX5_wasWritten_7 rfl rfl ?_
  refine j_iconst X (v := (nI 1)) (by decide) dX5_wasWritten_8 ?_
  refine j_icmp_lt (tgt := 25) X dX5_wasWritten_9 (by decide) (fun c => ?_) (fun c => ?_)
  · replace hf := f_t c hf
    refine j_iconst X (v := (nI 0)) (by decide) dX5_wasWritten_25 ?_
    exact j_bret X Y (Eq.trans (by decide : (nI 0) &&& 1 = (nI 0)) (f_s hf)) rfl dX5_wasWritten_26
  replace hf := f_f c hf
  refine j_iload_n X 2 dX5_wasWritten_12 rfl rfl ?_
  refine j_aload_n X 0 dX5_wasWritten_13 rfl rfl ?_
  refine j_iload_n X 1 dX5_wasWritten_14 rfl rfl ?_
  obtain ⟨o2, ho2, hf⟩ := f_bd hf
  refine j_callVi X oS0 rfl rfl [.int x1] (c_X5_writtenOf X.2.2.2.2.2.2.2 ho2) (cwV 1 X.2.2.2.2.1 gX5_wasWritten_X5_writtenOf rfl rfl rfl (by decide +kernel) ⟨Nat.le_of_ble_eq_true rfl, Nat.le_of_ble_eq_true rfl⟩) rfl rfl (Nat.le_of_ble_eq_true rfl) dX5_wasWritten_15 ?_
  refine j_icmp_gt (tgt := 25) X dX5_wasWritten_18 (by decide) (fun c => ?_) (fun c => ?_)
  · replace hf := f_t c hf
    refine j_iconst X (v := (nI 0)) (by decide) dX5_wasWritten_25 ?_
    exact j_bret X Y (Eq.trans (by decide : (nI 0) &&& 1 = (nI 0)) (f_s hf)) rfl dX5_wasWritten_26
  replace hf := f_f c hf
  refine j_iconst X (v := (nI 1)) (by decide) dX5_wasWritten_21 ?_
  refine j_goto (tgt := 26) X dX5_wasWritten_22 (by decide) ?_
  exact j_bret X Y (Eq.trans (by decide : (nI 1) &&& 1 = (nI 1)) (f_s hf)) rfl dX5_wasWritten_26
abbrev rmX5_keeps : Room := { frames := 2, cells := 0, slots := 0, locals := 42 }
set_option maxRecDepth 100000 in
set_option maxHeartbeats 4000000 in
theorem c_X5_keeps (hI : Inj 490 ad) {x1 : Int32} {x2 : Int32} {w : Wd} {out : Int32} (hf : m_X5_keeps x1 x2 w = some out) : Met l yX5_keeps wsX5_keeps rmX5_keeps (va_Pc [.ref (ad 50), .int x1, .int x2] (PW D (tC cI cL cS) 490 ad (cellC cI cL cS ad) w)) (QWi D 490 ad (cellC cI cL cS ad) out w) 0 0 (AW 490 ad) := by
  refine mk_met (maxL := 3) (ret := (some .boolean)) RX5 hI (by decide) rfl rfl (Nat.le_of_ble_eq_true rfl) rfl rfl (fun p e s m args below meth c X Y => ?_)
  unfold m_X5_keeps at hf
  refine j_aload_n X 0 dX5_keeps_0 rfl rfl ?_
  refine j_iload_n X 1 dX5_keeps_1 rfl rfl ?_
  obtain ⟨o1, ho1, hf⟩ := f_bd hf
  refine j_callVr X oS0 rfl rfl [.int x1] (c_X5_contentsOf X.2.2.2.2.2.2.2 ho1) (cwV 1 X.2.2.2.2.1 gX5_keeps_X5_contentsOf rfl rfl rfl (by decide +kernel) ⟨Nat.le_of_ble_eq_true rfl, Nat.le_of_ble_eq_true rfl⟩) rfl rfl (Nat.le_of_ble_eq_true rfl) dX5_keeps_2 ?_
  have hlo1 := ln_X5_contentsOf ho1
  refine j_iload_n X 2 dX5_keeps_5 rfl rfl ?_
  obtain ⟨o2, ho2, hf⟩ := f_bd hf
  refine j_callVi X (oLn hlo1) rfl rfl [.int x2] (c_X2_has X.2.2.2.2.2.2.2 hlo1 ho2) (cwV 1 X.2.2.2.2.1 gX5_keeps_X2_has rfl rfl rfl (by decide +kernel) ⟨Nat.le_of_ble_eq_true rfl, Nat.le_of_ble_eq_true rfl⟩) rfl rfl (Nat.le_of_ble_eq_true rfl) dX5_keeps_6 ?_
  exact j_bret X Y (f_s hf) rfl dX5_keeps_9
abbrev rmX3_hopsToContent : Room := { frames := 3, cells := 0, slots := 0, locals := 64 }
theorem inX3_hopsToContent_X3 : ∀ w ∈ wsX30, w ∈ wsX3_hopsToContent := fun _ h => List.mem_cons_of_mem _ (List.mem_append_left _ (List.mem_append_left _ (List.mem_append_right _ h)))
set_option maxRecDepth 100000 in
set_option maxHeartbeats 4000000 in
theorem t_X3_hopsToContent_L5 (X : CX p rmX3_hopsToContent s m args c cX3_hopsToContent 5 RX3 wsX3_hopsToContent D (tC cI cL cS) 490 ad) (Y : RX meth (some .int)) {x2 : Int32} {w : Wd} {out : Int32} : ∀ (n : Nat) (x3 : Int32) (x4 : Int32), m_X3_hopsToContent_L5 x2 w n x3 x4 = some out → WJ p l e rmX3_hopsToContent s m args below meth c (MQ below (QWi D 490 ad (cellC cI cL cS ad) out w) args s 0 0 (AW 490 ad)) 5 D 490 ad (cellC cI cL cS ad) w 5 [(0, .ref (ad 476)), (2, .int x2), (3, .int x3), (4, .int x4)] [] := by
  intro n
  induction n with
  | zero => intro x3 x4 hf; exact f_n hf
  | succ n ih =>
    intro x3 x4 hf
    rw [m_X3_hopsToContent_L5] at hf
    refine j_iload X 3 dX3_hopsToContent_5 rfl ?_
    refine j_bipush X (v := (nI 8)) (by decide) dX3_hopsToContent_7 ?_
    refine j_icmp_ge (tgt := 49) X dX3_hopsToContent_9 (by decide) (fun c => ?_) (fun c => ?_)
    · replace hf := f_t c hf
      refine j_bipush X (v := (-9 : Int32)) (by decide) dX3_hopsToContent_49 ?_
      exact j_iret X Y (f_s hf) rfl dX3_hopsToContent_51
    replace hf := f_f c hf
    refine j_aload_n X 0 dX3_hopsToContent_12 rfl rfl ?_
    refine j_get (ref := "ProxyVersions$Network") (index := 20) (v := .ref (ad 50)) X oNe inX3_hopsToContent_X3 rfl 0 (by decide) (List.mem_of_getElem? (i := 1) rfl) rfl rfl dX3_hopsToContent_13 ?_
    refine j_iload_n X 2 dX3_hopsToContent_16 rfl rfl ?_
    refine j_iload_n X 1 dX3_hopsToContent_17 rfl rfl ?_
    obtain ⟨o1, ho1, hf⟩ := f_bd hf
    refine j_callVi X oS0 rfl rfl [.int x3, .int x2] (c_X5_keeps X.2.2.2.2.2.2.2 ho1) (cwV 2 X.2.2.2.2.1 gX3_hopsToContent_X5_keeps rfl rfl rfl (by decide +kernel) ⟨Nat.le_of_ble_eq_true rfl, Nat.le_of_ble_eq_true rfl⟩) rfl rfl (Nat.le_of_ble_eq_true rfl) dX3_hopsToContent_18 ?_
    refine j_if_eq (tgt := 27) X dX3_hopsToContent_21 (by decide) (fun c => ?_) (fun c => ?_)
    · replace hf := f_t c hf
      refine j_iload_n X 2 dX3_hopsToContent_27 rfl rfl ?_
      refine j_if_ne (tgt := 34) X dX3_hopsToContent_28 (by decide) (fun c => ?_) (fun c => ?_)
      · replace hf := f_t c hf
        refine j_aload_n X 0 dX3_hopsToContent_34 rfl rfl ?_
        refine j_get (ref := "ProxyVersions$Network") (index := 20) (v := .ref (ad 50)) X oNe inX3_hopsToContent_X3 rfl 0 (by decide) (List.mem_of_getElem? (i := 1) rfl) rfl rfl dX3_hopsToContent_35 ?_
        refine j_iload_n X 2 dX3_hopsToContent_38 rfl rfl ?_
        obtain ⟨o2, ho2, hf⟩ := f_bd hf
        refine j_callVi X oS0 rfl rfl [.int x3] (c_X5_parentOf X.2.2.2.2.2.2.2 ho2) (cwV 1 X.2.2.2.2.1 gX3_hopsToContent_X5_parentOf rfl rfl rfl (by decide +kernel) ⟨Nat.le_of_ble_eq_true rfl, Nat.le_of_ble_eq_true rfl⟩) rfl rfl (Nat.le_of_ble_eq_true rfl) dX3_hopsToContent_39 ?_
        refine j_istore_n (lv' := [(0, .ref (ad 476)), (2, .int x2), (3, .int o2), (4, .int x4)]) X dX3_hopsToContent_42 rfl (by decide) rfl ?_
        refine j_iinc (v := (x4 + (nI 1))) (lv' := [(0, .ref (ad 476)), (2, .int x2), (3, .int o2), (4, .int (x4 + (nI 1)))]) X 3 dX3_hopsToContent_43 rfl rfl (by decide) rfl ?_
        refine j_goto (tgt := 5) X dX3_hopsToContent_46 (by decide) ?_
        exact ih _ _ hf
      replace hf := f_fn c hf
      refine j_bipush X (v := (-9 : Int32)) (by decide) dX3_hopsToContent_31 ?_
      exact j_iret X Y (f_s hf) rfl dX3_hopsToContent_33
    replace hf := f_f c hf
    refine j_iload X 3 dX3_hopsToContent_24 rfl ?_
    exact j_iret X Y (f_s hf) rfl dX3_hopsToContent_26
set_option maxRecDepth 100000 in
set_option maxHeartbeats 4000000 in
theorem c_X3_hopsToContent (hI : Inj 490 ad) {x1 : Int32} {x2 : Int32} {w : Wd} {out : Int32} (hf : m_X3_hopsToContent x1 x2 w = some out) : Met l yX3_hopsToContent wsX3_hopsToContent rmX3_hopsToContent (va_Pc [.ref (ad 476), .int x1, .int x2] (PW D (tC cI cL cS) 490 ad (cellC cI cL cS ad) w)) (QWi D 490 ad (cellC cI cL cS ad) out w) 0 0 (AW 490 ad) := by
  refine mk_met (maxL := 5) (ret := (some .int)) RX3 hI (by decide) rfl rfl (Nat.le_of_ble_eq_true rfl) rfl rfl (fun p e s m args below meth c X Y => ?_)
  unfold m_X3_hopsToContent at hf
  refine j_iload_n X 1 dX3_hopsToContent_0 rfl rfl ?_
  refine j_istore_n (lv' := [(0, .ref (ad 476)), (1, .int x1), (2, .int x2), (3, .int x1)]) X dX3_hopsToContent_1 rfl (by decide) rfl ?_
  refine j_iconst X (v := (nI 0)) (by decide) dX3_hopsToContent_2 ?_
  refine j_istore (lv' := [(0, .ref (ad 476)), (1, .int x1), (2, .int x2), (3, .int x1), (4, .int (nI 0))]) X dX3_hopsToContent_3 (by decide) rfl ?_
  refine j_sub [0, 2, 3, 4] rfl ?_
  refine t_X3_hopsToContent_L5 X Y _ _ _ hf
abbrev rmX3_fetchContent : Room := { frames := 4, cells := 0, slots := 0, locals := 88 }
theorem inX3_fetchContent_X3 : ∀ w ∈ wsX30, w ∈ wsX3_fetchContent := fun _ h => List.mem_cons_of_mem _ (List.mem_append_left _ (List.mem_append_left _ (List.mem_append_left _ (List.mem_append_right _ h))))
set_option maxRecDepth 100000 in
set_option maxHeartbeats 4000000 in
theorem c_X3_fetchContent (hI : Inj 490 ad) {x1 : Int32} {x2 : Int32} {x3 : Int32} {w : Wd} {out : Int32 × Wd} (hf : m_X3_fetchContent x1 x2 x3 w = some out) : Met l yX3_fetchContent wsX3_fetchContent rmX3_fetchContent (va_Pc [.ref (ad 476), .int x1, .int x2, .int x3] (PW D (tC cI cL cS) 490 ad (cellC cI cL cS ad) w)) (QWi D 490 ad (cellC cI cL cS ad) out.1 out.2) 0 0 (AW 490 ad) := by
  refine mk_met (maxL := 6) (ret := (some .int)) RX3 hI (by decide) rfl rfl (Nat.le_of_ble_eq_true rfl) rfl rfl (fun p e s m args below meth c X Y => ?_)
  unfold m_X3_fetchContent at hf
  refine j_aload_n X 0 dX3_fetchContent_0 rfl rfl ?_
  refine j_get (ref := "ProxyVersions$Network") (index := 20) (v := .ref (ad 50)) X oNe inX3_fetchContent_X3 rfl 0 (by decide) (List.mem_of_getElem? (i := 1) rfl) rfl rfl dX3_fetchContent_1 ?_
  refine j_iload_n X 1 dX3_fetchContent_4 rfl rfl ?_
  obtain ⟨o1, ho1, hf⟩ := f_bd hf
  refine j_callVi X oS0 rfl rfl [.int x1] (c_X5_hasProxy X.2.2.2.2.2.2.2 ho1) (cwV 1 X.2.2.2.2.1 gX3_fetchContent_X5_hasProxy rfl rfl rfl (by decide +kernel) ⟨Nat.le_of_ble_eq_true rfl, Nat.le_of_ble_eq_true rfl⟩) rfl rfl (Nat.le_of_ble_eq_true rfl) dX3_fetchContent_5 ?_
  refine j_if_eq (tgt := 23) X dX3_fetchContent_8 (by decide) (fun c => ?_) (fun c => ?_)
  · replace hf := f_t c hf
    refine j_iconst X (v := (-1 : Int32)) (by decide) dX3_fetchContent_23 ?_
    exact j_iret X Y (f_p1 hf) (f_p2 hf) dX3_fetchContent_24
  replace hf := f_f c hf
  refine j_aload_n X 0 dX3_fetchContent_11 rfl rfl ?_
  refine j_get (ref := "ProxyVersions$Network") (index := 20) (v := .ref (ad 50)) X oNe inX3_fetchContent_X3 rfl 0 (by decide) (List.mem_of_getElem? (i := 1) rfl) rfl rfl dX3_fetchContent_12 ?_
  refine j_iload_n X 2 dX3_fetchContent_15 rfl rfl ?_
  refine j_iload_n X 3 dX3_fetchContent_16 rfl rfl ?_
  obtain ⟨o2, ho2, hf⟩ := f_bd hf
  refine j_callVi X oS0 rfl rfl [.int x2, .int x3] (c_X5_wasWritten X.2.2.2.2.2.2.2 ho2) (cwV 2 X.2.2.2.2.1 gX3_fetchContent_X5_wasWritten rfl rfl rfl (by decide +kernel) ⟨Nat.le_of_ble_eq_true rfl, Nat.le_of_ble_eq_true rfl⟩) rfl rfl (Nat.le_of_ble_eq_true rfl) dX3_fetchContent_17 ?_
  refine j_if_ne (tgt := 25) X dX3_fetchContent_20 (by decide) (fun c => ?_) (fun c => ?_)
  · replace hf := f_t c hf
    refine j_iload_n X 3 dX3_fetchContent_25 rfl rfl ?_
    refine j_aload_n X 0 dX3_fetchContent_26 rfl rfl ?_
    refine j_get (ref := "ProxyVersions$Network") (index := 24) (v := .ref (ad 473)) X oNe inX3_fetchContent_X3 rfl 1 (by decide) (List.mem_of_getElem? (i := 2) rfl) rfl rfl dX3_fetchContent_27 ?_
    refine j_iload_n X 1 dX3_fetchContent_30 rfl rfl ?_
    refine j_iload_n X 2 dX3_fetchContent_31 rfl rfl ?_
    obtain ⟨o3, ho3, hf⟩ := f_bd hf
    refine j_callVi X oCa rfl rfl [.int x1, .int x2] (c_X0_servedOf X.2.2.2.2.2.2.2 ho3) (cwV 2 X.2.2.2.2.1 gX3_fetchContent_X0_servedOf rfl rfl rfl (by decide +kernel) ⟨Nat.le_of_ble_eq_true rfl, Nat.le_of_ble_eq_true rfl⟩) rfl rfl (Nat.le_of_ble_eq_true rfl) dX3_fetchContent_32 ?_
    refine j_icmp_le (tgt := 41) X dX3_fetchContent_35 (by decide) (fun c => ?_) (fun c => ?_)
    · replace hf := f_t c hf
      refine j_iload_n X 2 dX3_fetchContent_41 rfl rfl ?_
      refine j_iload_n X 3 dX3_fetchContent_42 rfl rfl ?_
      obtain ⟨o4, ho4, hf⟩ := f_bd hf
      refine j_callSNi X [.int x2, .int x3] (c_X7_updateOf X.2.2.2.2.2.2.2 ho4) ⟨va_cnB 2 X.2.2.2.2.1 gX3_fetchContent_X7_updateOf_n76 rfl rfl rfl (X.2.2.2.2.2.2.1.2 ("ProxyVersions$Network", 76, ⟨"ProxyVersions", "updateOf", "(II)I"⟩, "ProxyVersions") (List.mem_of_getElem? (i := 4) rfl)) (X.2.2.2.2.1 _ (List.mem_of_getElem? (i := 14) rfl)) (by decide +kernel) ⟨Nat.le_of_ble_eq_true rfl, Nat.le_of_ble_eq_true rfl⟩, X.2.2.2.2.1 _ (List.mem_of_getElem? (i := 50) rfl), trivial⟩ rfl rfl (Nat.le_of_ble_eq_true rfl) dX3_fetchContent_43 ?_
      refine j_istore (lv' := [(0, .ref (ad 476)), (1, .int x1), (2, .int x2), (3, .int x3), (4, .int o4)]) X dX3_fetchContent_46 (by decide) rfl ?_
      refine j_aload_n X 0 dX3_fetchContent_48 rfl rfl ?_
      refine j_iload_n X 1 dX3_fetchContent_49 rfl rfl ?_
      refine j_iload X 4 dX3_fetchContent_50 rfl ?_
      obtain ⟨o5, ho5, hf⟩ := f_bd hf
      refine j_callVi X oNe rfl rfl [.int x1, .int o4] (c_X3_hopsToContent X.2.2.2.2.2.2.2 ho5) (cwV 2 X.2.2.2.2.1 gX3_fetchContent_X3_hopsToContent rfl rfl rfl (by decide +kernel) ⟨Nat.le_of_ble_eq_true rfl, Nat.le_of_ble_eq_true rfl⟩) rfl rfl (Nat.le_of_ble_eq_true rfl) dX3_fetchContent_52 ?_
      refine j_istore (lv' := [(0, .ref (ad 476)), (1, .int x1), (2, .int x2), (3, .int x3), (4, .int o4), (5, .int o5)]) X dX3_fetchContent_55 (by decide) rfl ?_
      refine j_iload X 5 dX3_fetchContent_57 rfl ?_
      refine j_if_le (tgt := 69) X dX3_fetchContent_59 (by decide) (fun c => ?_) (fun c => ?_)
      · replace hf := f_t c hf
        refine j_iload X 5 dX3_fetchContent_69 rfl ?_
        exact j_iret X Y (f_p1 hf) (f_p2 hf) dX3_fetchContent_71
      replace hf := f_f c hf
      refine j_aload_n X 0 dX3_fetchContent_62 rfl rfl ?_
      refine j_iload_n X 1 dX3_fetchContent_63 rfl rfl ?_
      refine j_iload X 4 dX3_fetchContent_64 rfl ?_
      obtain ⟨o6, ho6, hf⟩ := f_bd hf
      refine j_callVv X oNe rfl rfl [.int x1, .int o4] (c_X3_keepContent X.2.2.2.2.2.2.2 ho6) (cwV 2 X.2.2.2.2.1 gX3_fetchContent_X3_keepContent rfl rfl rfl (by decide +kernel) ⟨Nat.le_of_ble_eq_true rfl, Nat.le_of_ble_eq_true rfl⟩) rfl rfl (Nat.le_of_ble_eq_true rfl) dX3_fetchContent_66 ?_
      refine j_iload X 5 dX3_fetchContent_69 rfl ?_
      exact j_iret X Y (f_p1 hf) (f_p2 hf) dX3_fetchContent_71
    replace hf := f_f c hf
    refine j_bipush X (v := (-2 : Int32)) (by decide) dX3_fetchContent_38 ?_
    exact j_iret X Y (f_p1 hf) (f_p2 hf) dX3_fetchContent_40
  replace hf := f_fn c hf
  refine j_iconst X (v := (-1 : Int32)) (by decide) dX3_fetchContent_23 ?_
  exact j_iret X Y (f_p1 hf) (f_p2 hf) dX3_fetchContent_24
abbrev rmX5_isAbove : Room := { frames := 1, cells := 0, slots := 0, locals := 21 }
set_option maxRecDepth 100000 in
set_option maxHeartbeats 4000000 in
theorem t_X5_isAbove_L5 (X : CX p rmX5_isAbove s m args c cX5_isAbove 5 RX5 wsX5_isAbove D (tC cI cL cS) 490 ad) (Y : RX meth (some .boolean)) {x1 : Int32} {w : Wd} {out : Int32} : ∀ (n : Nat) (x3 : Int32) (x4 : Int32), m_X5_isAbove_L5 x1 w n x3 x4 = some out → WJ p l e rmX5_isAbove s m args below meth c (MQ below (QWi D 490 ad (cellC cI cL cS ad) out w) args s 0 0 (AW 490 ad)) 5 D 490 ad (cellC cI cL cS ad) w 5 [(0, .ref (ad 50)), (1, .int x1), (3, .int x3), (4, .int x4)] [] := by
  intro n
  induction n with
  | zero => intro x3 x4 hf; exact f_n hf
  | succ n ih =>
    intro x3 x4 hf
    rw [m_X5_isAbove_L5] at hf
    refine j_iload_n X 2 dX5_isAbove_5 rfl rfl ?_
    refine j_if_eq (tgt := 35) X dX5_isAbove_6 (by decide) (fun c => ?_) (fun c => ?_)
    · replace hf := f_t c hf
      refine j_iconst X (v := (nI 0)) (by decide) dX5_isAbove_35 ?_
      exact j_bret X Y (Eq.trans (by decide : (nI 0) &&& 1 = (nI 0)) (f_s hf)) rfl dX5_isAbove_36
    replace hf := f_f c hf
    refine j_iload X 3 dX5_isAbove_9 rfl ?_
    refine j_bipush X (v := (nI 8)) (by decide) dX5_isAbove_11 ?_
    refine j_icmp_ge (tgt := 35) X dX5_isAbove_13 (by decide) (fun c => ?_) (fun c => ?_)
    · replace hf := f_t c hf
      refine j_iconst X (v := (nI 0)) (by decide) dX5_isAbove_35 ?_
      exact j_bret X Y (Eq.trans (by decide : (nI 0) &&& 1 = (nI 0)) (f_s hf)) rfl dX5_isAbove_36
    replace hf := f_f c hf
    refine j_aload_n X 0 dX5_isAbove_16 rfl rfl ?_
    refine j_iload_n X 2 dX5_isAbove_17 rfl rfl ?_
    obtain ⟨o1, ho1, hf⟩ := f_bd hf
    refine j_callVi X oS0 rfl rfl [.int x3] (c_X5_parentOf X.2.2.2.2.2.2.2 ho1) (cwV 1 X.2.2.2.2.1 gX5_isAbove_X5_parentOf rfl rfl rfl (by decide +kernel) ⟨Nat.le_of_ble_eq_true rfl, Nat.le_of_ble_eq_true rfl⟩) rfl rfl (Nat.le_of_ble_eq_true rfl) dX5_isAbove_18 ?_
    refine j_istore_n (lv' := [(0, .ref (ad 50)), (1, .int x1), (3, .int o1), (4, .int x4)]) X dX5_isAbove_21 rfl (by decide) rfl ?_
    refine j_iload_n X 2 dX5_isAbove_22 rfl rfl ?_
    refine j_iload_n X 1 dX5_isAbove_23 rfl rfl ?_
    refine j_icmp_ne (tgt := 29) X dX5_isAbove_24 (by decide) (fun c => ?_) (fun c => ?_)
    · replace hf := f_t c hf
      refine j_iinc (v := (x4 + (nI 1))) (lv' := [(0, .ref (ad 50)), (1, .int x1), (3, .int o1), (4, .int (x4 + (nI 1)))]) X 3 dX5_isAbove_29 rfl rfl (by decide) rfl ?_
      refine j_goto (tgt := 5) X dX5_isAbove_32 (by decide) ?_
      exact ih _ _ hf
    replace hf := f_fn c hf
    refine j_iconst X (v := (nI 1)) (by decide) dX5_isAbove_27 ?_
    exact j_bret X Y (Eq.trans (by decide : (nI 1) &&& 1 = (nI 1)) (f_s hf)) rfl dX5_isAbove_28
set_option maxRecDepth 100000 in
set_option maxHeartbeats 4000000 in
theorem c_X5_isAbove (hI : Inj 490 ad) {x1 : Int32} {x2 : Int32} {w : Wd} {out : Int32} (hf : m_X5_isAbove x1 x2 w = some out) : Met l yX5_isAbove wsX5_isAbove rmX5_isAbove (va_Pc [.ref (ad 50), .int x1, .int x2] (PW D (tC cI cL cS) 490 ad (cellC cI cL cS ad) w)) (QWi D 490 ad (cellC cI cL cS ad) out w) 0 0 (AW 490 ad) := by
  refine mk_met (maxL := 5) (ret := (some .boolean)) RX5 hI (by decide) rfl rfl (Nat.le_of_ble_eq_true rfl) rfl rfl (fun p e s m args below meth c X Y => ?_)
  unfold m_X5_isAbove at hf
  refine j_iload_n X 2 dX5_isAbove_0 rfl rfl ?_
  refine j_istore_n (lv' := [(0, .ref (ad 50)), (1, .int x1), (2, .int x2), (3, .int x2)]) X dX5_isAbove_1 rfl (by decide) rfl ?_
  refine j_iconst X (v := (nI 0)) (by decide) dX5_isAbove_2 ?_
  refine j_istore (lv' := [(0, .ref (ad 50)), (1, .int x1), (2, .int x2), (3, .int x2), (4, .int (nI 0))]) X dX5_isAbove_3 (by decide) rfl ?_
  refine j_sub [0, 1, 3, 4] rfl ?_
  refine t_X5_isAbove_L5 X Y _ _ _ hf
abbrev rmX6_greatest : Room := { frames := 0, cells := 0, slots := 0, locals := 0 }
set_option maxRecDepth 100000 in
set_option maxHeartbeats 4000000 in
theorem t_X6_greatest_L3 (X : CX p rmX6_greatest s m args c cX6_greatest 2 RX6 wsX6_greatest D (tC cI cL cS) 490 ad) (Y : RX meth (some .int)) {x0 : Int32} {w : Wd} {out : Int32} : ∀ (n : Nat) (x1 : Int32), m_X6_greatest_L3 x0 n x1 = some out → WJ p l e rmX6_greatest s m args below meth c (MQ below (QWi D 490 ad (cellC cI cL cS ad) out w) args s 0 0 (AW 490 ad)) 2 D 490 ad (cellC cI cL cS ad) w 3 [(0, .int x0), (1, .int x1)] [] := by
  intro n
  induction n with
  | zero => intro x1 hf; exact f_n hf
  | succ n ih =>
    intro x1 hf
    rw [m_X6_greatest_L3] at hf
    refine j_iload_n X 1 dX6_greatest_3 rfl rfl ?_
    refine j_if_le (tgt := 23) X dX6_greatest_4 (by decide) (fun c => ?_) (fun c => ?_)
    · replace hf := f_t c hf
      refine j_iload_n X 1 dX6_greatest_23 rfl rfl ?_
      exact j_iret X Y (f_s hf) rfl dX6_greatest_24
    replace hf := f_f c hf
    refine j_iload_n X 0 dX6_greatest_7 rfl rfl ?_
    refine j_iload_n X 1 dX6_greatest_8 rfl rfl ?_
    refine j_iconst X (v := (nI 1)) (by decide) dX6_greatest_9 ?_
    refine j_isub X dX6_greatest_10 ?_
    refine j_ishr X dX6_greatest_11 ?_
    refine j_iconst X (v := (nI 1)) (by decide) dX6_greatest_12 ?_
    refine j_iand X dX6_greatest_13 ?_
    refine j_if_ne (tgt := 23) X dX6_greatest_14 (by decide) (fun c => ?_) (fun c => ?_)
    · replace hf := f_t c hf
      refine j_iload_n X 1 dX6_greatest_23 rfl rfl ?_
      exact j_iret X Y (f_s hf) rfl dX6_greatest_24
    replace hf := f_fn c hf
    refine j_iinc (v := (x1 + (-1 : Int32))) (lv' := [(0, .int x0), (1, .int (x1 + (-1 : Int32)))]) X 1 dX6_greatest_17 rfl rfl (by decide) rfl ?_
    refine j_goto (tgt := 3) X dX6_greatest_20 (by decide) ?_
    exact ih _ hf
set_option maxRecDepth 100000 in
set_option maxHeartbeats 4000000 in
theorem c_X6_greatest (hI : Inj 490 ad) {x0 : Int32} {w : Wd} {out : Int32} (hf : m_X6_greatest x0 = some out) : Met l yX6_greatest wsX6_greatest rmX6_greatest (va_Pc [.int x0] (PW D (tC cI cL cS) 490 ad (cellC cI cL cS ad) w)) (QWi D 490 ad (cellC cI cL cS ad) out w) 0 0 (AW 490 ad) := by
  refine mk_met (maxL := 2) (ret := (some .int)) RX6 hI (by decide) rfl rfl (Nat.le_of_ble_eq_true rfl) rfl rfl (fun p e s m args below meth c X Y => ?_)
  unfold m_X6_greatest at hf
  refine j_bipush X (v := (nI 24)) (by decide) dX6_greatest_0 ?_
  refine j_istore_n (lv' := [(0, .int x0), (1, .int (nI 24))]) X dX6_greatest_2 rfl (by decide) rfl ?_
  refine t_X6_greatest_L3 X Y _ _ hf
abbrev rmX3_findGapsToFill : Room := { frames := 2, cells := 0, slots := 0, locals := 46 }
theorem inX3_findGapsToFill_X3 : ∀ w ∈ wsX30, w ∈ wsX3_findGapsToFill := fun _ h => List.mem_cons_of_mem _ (List.mem_append_left _ (List.mem_append_left _ (List.mem_append_right _ h)))
set_option maxRecDepth 100000 in
set_option maxHeartbeats 4000000 in
theorem t_X3_findGapsToFill_j89 (X : CX p rmX3_findGapsToFill s m args c cX3_findGapsToFill 6 RX3 wsX3_findGapsToFill D (tC cI cL cS) 490 ad) (Y : RX meth none) {x1 : Int32} {x2 : Int32} {x3 : Int32} {x4 : Int32} {x5 : Int32} {w : Wd} {kc : Int32 → Wd → Option (Wd)} {kx95 : Wd → Option (Wd)} {out : Wd} (hf : m_X3_findGapsToFill_j89 x1 x2 x3 x4 x5 w kc kx95 = some out) (hk_kc : ∀ (y5 : Int32) (v : Wd), kc y5 v = some out → WJ p l e rmX3_findGapsToFill s m args below meth c (MQ below (QWv D 490 ad (cellC cI cL cS ad) out) args s 0 0 (AW 490 ad)) 6 D 490 ad (cellC cI cL cS ad) v 40 [(0, .ref (ad 476)), (1, .int x1), (2, .int x2), (3, .int x3), (4, .int x4), (5, .int y5)] []) (hk_kx95 : ∀  (v : Wd), kx95 v = some out → WJ p l e rmX3_findGapsToFill s m args below meth c (MQ below (QWv D 490 ad (cellC cI cL cS ad) out) args s 0 0 (AW 490 ad)) 6 D 490 ad (cellC cI cL cS ad) v 95 [(0, .ref (ad 476)), (1, .int x1), (2, .int x2), (3, .int x3)] []) : WJ p l e rmX3_findGapsToFill s m args below meth c (MQ below (QWv D 490 ad (cellC cI cL cS ad) out) args s 0 0 (AW 490 ad)) 6 D 490 ad (cellC cI cL cS ad) w 89 [(0, .ref (ad 476)), (1, .int x1), (2, .int x2), (3, .int x3), (4, .int x4), (5, .int x5)] [] := by
  unfold m_X3_findGapsToFill_j89 at hf
  refine j_iinc (v := (x5 + (nI 1))) (lv' := [(0, .ref (ad 476)), (1, .int x1), (2, .int x2), (3, .int x3), (4, .int x4), (5, .int (x5 + (nI 1)))]) X 5 dX3_findGapsToFill_89 rfl rfl (by decide) rfl ?_
  refine j_goto (tgt := 40) X dX3_findGapsToFill_92 (by decide) ?_
  exact hk_kc _ _ hf
set_option maxRecDepth 100000 in
set_option maxHeartbeats 4000000 in
theorem t_X3_findGapsToFill_L40 (X : CX p rmX3_findGapsToFill s m args c cX3_findGapsToFill 6 RX3 wsX3_findGapsToFill D (tC cI cL cS) 490 ad) (Y : RX meth none) {x1 : Int32} {x2 : Int32} {x3 : Int32} {x4 : Int32} {kx95 : Wd → Option (Wd)} {out : Wd} (hk_kx95 : ∀  (v : Wd), kx95 v = some out → WJ p l e rmX3_findGapsToFill s m args below meth c (MQ below (QWv D 490 ad (cellC cI cL cS ad) out) args s 0 0 (AW 490 ad)) 6 D 490 ad (cellC cI cL cS ad) v 95 [(0, .ref (ad 476)), (1, .int x1), (2, .int x2), (3, .int x3)] []) : ∀ (n : Nat) (x5 : Int32) (w : Wd), m_X3_findGapsToFill_L40 x1 x2 x3 x4 kx95 n x5 w = some out → WJ p l e rmX3_findGapsToFill s m args below meth c (MQ below (QWv D 490 ad (cellC cI cL cS ad) out) args s 0 0 (AW 490 ad)) 6 D 490 ad (cellC cI cL cS ad) w 40 [(0, .ref (ad 476)), (1, .int x1), (2, .int x2), (3, .int x3), (4, .int x4), (5, .int x5)] [] := by
  intro n
  induction n with
  | zero => intro x5 w hf; exact f_n hf
  | succ n ih =>
    intro x5 w hf
    rw [m_X3_findGapsToFill_L40] at hf
    refine j_iload X 5 dX3_findGapsToFill_40 rfl ?_
    refine j_iload X 4 dX3_findGapsToFill_42 rfl ?_
    refine j_icmp_ge (tgt := 95) X dX3_findGapsToFill_44 (by decide) (fun c => ?_) (fun c => ?_)
    · replace hf := f_t c hf
      refine j_sub [0, 1, 2, 3] rfl ?_
      exact hk_kx95 _ hf
    replace hf := f_f c hf
    refine j_aload_n X 0 dX3_findGapsToFill_47 rfl rfl ?_
    refine j_get (ref := "ProxyVersions$Network") (index := 20) (v := .ref (ad 50)) X oNe inX3_findGapsToFill_X3 rfl 0 (by decide) (List.mem_of_getElem? (i := 1) rfl) rfl rfl dX3_findGapsToFill_48 ?_
    refine j_iload_n X 1 dX3_findGapsToFill_51 rfl rfl ?_
    refine j_iload_n X 3 dX3_findGapsToFill_52 rfl rfl ?_
    refine j_iload X 5 dX3_findGapsToFill_53 rfl ?_
    obtain ⟨o1, ho1, hf⟩ := f_bd hf
    refine j_callVi X oS0 rfl rfl [.int x1, .int x3, .int x5] (c_X5_knows X.2.2.2.2.2.2.2 ho1) (cwV 3 X.2.2.2.2.1 gX3_findGapsToFill_X5_knows rfl rfl rfl (by decide +kernel) ⟨Nat.le_of_ble_eq_true rfl, Nat.le_of_ble_eq_true rfl⟩) rfl rfl (Nat.le_of_ble_eq_true rfl) dX3_findGapsToFill_55 ?_
    refine j_if_ne (tgt := 89) X dX3_findGapsToFill_58 (by decide) (fun c => ?_) (fun c => ?_)
    · replace hf := f_t c hf
      exact t_X3_findGapsToFill_j89 X Y hf ih hk_kx95
    replace hf := f_fn c hf
    refine j_aload_n X 0 dX3_findGapsToFill_61 rfl rfl ?_
    refine j_get (ref := "ProxyVersions$Network") (index := 20) (v := .ref (ad 50)) X oNe inX3_findGapsToFill_X3 rfl 0 (by decide) (List.mem_of_getElem? (i := 1) rfl) rfl rfl dX3_findGapsToFill_62 ?_
    refine j_iload_n X 2 dX3_findGapsToFill_65 rfl rfl ?_
    refine j_iload_n X 3 dX3_findGapsToFill_66 rfl rfl ?_
    refine j_iload X 5 dX3_findGapsToFill_67 rfl ?_
    obtain ⟨o2, ho2, hf⟩ := f_bd hf
    refine j_callVi X oS0 rfl rfl [.int x2, .int x3, .int x5] (c_X5_knows X.2.2.2.2.2.2.2 ho2) (cwV 3 X.2.2.2.2.1 gX3_findGapsToFill_X5_knows rfl rfl rfl (by decide +kernel) ⟨Nat.le_of_ble_eq_true rfl, Nat.le_of_ble_eq_true rfl⟩) rfl rfl (Nat.le_of_ble_eq_true rfl) dX3_findGapsToFill_69 ?_
    refine j_if_eq (tgt := 89) X dX3_findGapsToFill_72 (by decide) (fun c => ?_) (fun c => ?_)
    · replace hf := f_t c hf
      exact t_X3_findGapsToFill_j89 X Y hf ih hk_kx95
    replace hf := f_f c hf
    refine j_aload_n X 0 dX3_findGapsToFill_75 rfl rfl ?_
    refine j_get (ref := "ProxyVersions$Network") (index := 14) (v := .ref (ad 480)) X oNe inX3_findGapsToFill_X3 rfl 2 (by decide) (List.mem_of_getElem? (i := 2) rfl) rfl rfl dX3_findGapsToFill_76 ?_
    refine j_iload_n X 3 dX3_findGapsToFill_79 rfl rfl ?_
    refine j_iload X 5 dX3_findGapsToFill_80 rfl ?_
    obtain ⟨o3, ho3, hf⟩ := f_bd hf
    refine j_callSNi X [.int x3, .int x5] (c_X7_updateOf X.2.2.2.2.2.2.2 ho3) ⟨va_cnB 2 X.2.2.2.2.1 gX3_findGapsToFill_X7_updateOf_n76 rfl rfl rfl (X.2.2.2.2.2.2.1.2 ("ProxyVersions$Network", 76, ⟨"ProxyVersions", "updateOf", "(II)I"⟩, "ProxyVersions") (List.mem_of_getElem? (i := 4) rfl)) (X.2.2.2.2.1 _ (List.mem_of_getElem? (i := 33) rfl)) (by decide +kernel) ⟨Nat.le_of_ble_eq_true rfl, Nat.le_of_ble_eq_true rfl⟩, X.2.2.2.2.1 _ (List.mem_of_getElem? (i := 32) rfl), trivial⟩ rfl rfl (Nat.le_of_ble_eq_true rfl) dX3_findGapsToFill_82 ?_
    obtain ⟨o4, ho4, hf⟩ := f_bd hf
    refine j_callVi X (oLn ln480) rfl rfl [.int o3] (c_X2_append X.2.2.2.2.2.2.2 ln480 ho4) (cwV 1 X.2.2.2.2.1 gX3_findGapsToFill_X2_append rfl rfl rfl (by decide +kernel) ⟨Nat.le_of_ble_eq_true rfl, Nat.le_of_ble_eq_true rfl⟩) rfl rfl (Nat.le_of_ble_eq_true rfl) dX3_findGapsToFill_85 ?_
    refine j_pop X rfl dX3_findGapsToFill_88 ?_
    exact t_X3_findGapsToFill_j89 X Y hf ih hk_kx95
set_option maxRecDepth 100000 in
set_option maxHeartbeats 4000000 in
theorem t_X3_findGapsToFill_L18 (X : CX p rmX3_findGapsToFill s m args c cX3_findGapsToFill 6 RX3 wsX3_findGapsToFill D (tC cI cL cS) 490 ad) (Y : RX meth none) {x1 : Int32} {x2 : Int32} {out : Wd} : ∀ (n : Nat) (x3 : Int32) (w : Wd), m_X3_findGapsToFill_L18 x1 x2 n x3 w = some out → WJ p l e rmX3_findGapsToFill s m args below meth c (MQ below (QWv D 490 ad (cellC cI cL cS ad) out) args s 0 0 (AW 490 ad)) 6 D 490 ad (cellC cI cL cS ad) w 18 [(0, .ref (ad 476)), (1, .int x1), (2, .int x2), (3, .int x3)] [] := by
  intro n
  induction n with
  | zero => intro x3 w hf; exact f_n hf
  | succ n ih =>
    intro x3 w hf
    rw [m_X3_findGapsToFill_L18] at hf
    refine j_iload_n X 3 dX3_findGapsToFill_18 rfl rfl ?_
    refine j_iconst X (v := (nI 4)) (by decide) dX3_findGapsToFill_19 ?_
    refine j_icmp_ge (tgt := 101) X dX3_findGapsToFill_20 (by decide) (fun c => ?_) (fun c => ?_)
    · replace hf := f_t c hf
      exact j_vret X Y (f_s hf) dX3_findGapsToFill_101
    replace hf := f_f c hf
    refine j_aload_n X 0 dX3_findGapsToFill_23 rfl rfl ?_
    refine j_get (ref := "ProxyVersions$Network") (index := 20) (v := .ref (ad 50)) X oNe inX3_findGapsToFill_X3 rfl 0 (by decide) (List.mem_of_getElem? (i := 1) rfl) rfl rfl dX3_findGapsToFill_24 ?_
    refine j_iload_n X 1 dX3_findGapsToFill_27 rfl rfl ?_
    refine j_iload_n X 3 dX3_findGapsToFill_28 rfl rfl ?_
    obtain ⟨o1, ho1, hf⟩ := f_bd hf
    refine j_callVi X oS0 rfl rfl [.int x1, .int x3] (c_X5_knownOf X.2.2.2.2.2.2.2 ho1) (cwV 2 X.2.2.2.2.1 gX3_findGapsToFill_X5_knownOf rfl rfl rfl (by decide +kernel) ⟨Nat.le_of_ble_eq_true rfl, Nat.le_of_ble_eq_true rfl⟩) rfl rfl (Nat.le_of_ble_eq_true rfl) dX3_findGapsToFill_29 ?_
    obtain ⟨o2, ho2, hf⟩ := f_bd hf
    refine j_callSi X [.int o1] (c_X6_greatest X.2.2.2.2.2.2.2 ho2) (va_cwS 1 X.2.2.2.2.1 gX3_findGapsToFill_X6_greatest rfl rfl rfl (by decide +kernel) ⟨Nat.le_of_ble_eq_true rfl, Nat.le_of_ble_eq_true rfl⟩) rfl rfl (Nat.le_of_ble_eq_true rfl) dX3_findGapsToFill_32 ?_
    refine j_istore (lv' := [(0, .ref (ad 476)), (1, .int x1), (2, .int x2), (3, .int x3), (4, .int o2)]) X dX3_findGapsToFill_35 (by decide) rfl ?_
    refine j_iconst X (v := (nI 1)) (by decide) dX3_findGapsToFill_37 ?_
    refine j_istore (lv' := [(0, .ref (ad 476)), (1, .int x1), (2, .int x2), (3, .int x3), (4, .int o2), (5, .int (nI 1))]) X dX3_findGapsToFill_38 (by decide) rfl ?_
    refine t_X3_findGapsToFill_L40 X Y ?_ _ _ _ hf
    intro w3 hf
    refine j_iinc (v := (x3 + (nI 1))) (lv' := [(0, .ref (ad 476)), (1, .int x1), (2, .int x2), (3, .int (x3 + (nI 1)))]) X 3 dX3_findGapsToFill_95 rfl rfl (by decide) rfl ?_
    refine j_goto (tgt := 18) X dX3_findGapsToFill_98 (by decide) ?_
    exact ih _ _ hf
set_option maxRecDepth 100000 in
set_option maxHeartbeats 4000000 in
theorem c_X3_findGapsToFill (hI : Inj 490 ad) {x1 : Int32} {w : Wd} {out : Wd} (hf : m_X3_findGapsToFill x1 w = some out) : Met l yX3_findGapsToFill wsX3_findGapsToFill rmX3_findGapsToFill (va_Pc [.ref (ad 476), .int x1] (PW D (tC cI cL cS) 490 ad (cellC cI cL cS ad) w)) (QWv D 490 ad (cellC cI cL cS ad) out) 0 0 (AW 490 ad) := by
  refine mk_met (maxL := 6) (ret := none) RX3 hI (by decide) rfl rfl (Nat.le_of_ble_eq_true rfl) rfl rfl (fun p e s m args below meth c X Y => ?_)
  unfold m_X3_findGapsToFill at hf
  refine j_aload_n X 0 dX3_findGapsToFill_0 rfl rfl ?_
  refine j_get (ref := "ProxyVersions$Network") (index := 20) (v := .ref (ad 50)) X oNe inX3_findGapsToFill_X3 rfl 0 (by decide) (List.mem_of_getElem? (i := 1) rfl) rfl rfl dX3_findGapsToFill_1 ?_
  refine j_iload_n X 1 dX3_findGapsToFill_4 rfl rfl ?_
  obtain ⟨o1, ho1, hf⟩ := f_bd hf
  refine j_callVi X oS0 rfl rfl [.int x1] (c_X5_parentOf X.2.2.2.2.2.2.2 ho1) (cwV 1 X.2.2.2.2.1 gX3_findGapsToFill_X5_parentOf rfl rfl rfl (by decide +kernel) ⟨Nat.le_of_ble_eq_true rfl, Nat.le_of_ble_eq_true rfl⟩) rfl rfl (Nat.le_of_ble_eq_true rfl) dX3_findGapsToFill_5 ?_
  refine j_istore_n (lv' := [(0, .ref (ad 476)), (1, .int x1), (2, .int o1)]) X dX3_findGapsToFill_8 rfl (by decide) rfl ?_
  refine j_aload_n X 0 dX3_findGapsToFill_9 rfl rfl ?_
  refine j_get (ref := "ProxyVersions$Network") (index := 14) (v := .ref (ad 480)) X oNe inX3_findGapsToFill_X3 rfl 2 (by decide) (List.mem_of_getElem? (i := 2) rfl) rfl rfl dX3_findGapsToFill_10 ?_
  obtain ⟨o2, ho2, hf⟩ := f_bd hf
  refine j_callVv X (oLn ln480) rfl rfl [] (c_X2_clear X.2.2.2.2.2.2.2 ln480 ho2) (cwV 0 X.2.2.2.2.1 gX3_findGapsToFill_X2_clear rfl rfl rfl (by decide +kernel) ⟨Nat.le_of_ble_eq_true rfl, Nat.le_of_ble_eq_true rfl⟩) rfl rfl (Nat.le_of_ble_eq_true rfl) dX3_findGapsToFill_13 ?_
  refine j_iconst X (v := (nI 0)) (by decide) dX3_findGapsToFill_16 ?_
  refine j_istore_n (lv' := [(0, .ref (ad 476)), (1, .int x1), (2, .int o1), (3, .int (nI 0))]) X dX3_findGapsToFill_17 rfl (by decide) rfl ?_
  refine t_X3_findGapsToFill_L18 X Y _ _ _ hf
abbrev rmX3_askUpward : Room := { frames := 4, cells := 0, slots := 0, locals := 99 }
theorem inX3_askUpward_X3 : ∀ w ∈ wsX30, w ∈ wsX3_askUpward := fun _ h => List.mem_cons_of_mem _ (List.mem_append_left _ (List.mem_append_left _ (List.mem_append_left _ (List.mem_append_right _ h))))
theorem inX3_askUpward_X5 : ∀ w ∈ wsX50, w ∈ wsX3_askUpward := fun _ h => List.mem_cons_of_mem _ (List.mem_append_left _ (List.mem_append_left _ (List.mem_append_right _ h)))
set_option maxRecDepth 100000 in
set_option maxHeartbeats 4000000 in
theorem t_X3_askUpward_j115 (X : CX p rmX3_askUpward s m args c cX3_askUpward 7 RX3 wsX3_askUpward D (tC cI cL cS) 490 ad) (Y : RX meth (some .int)) {x1 : Int32} {x2 : Int32} {x3 : Int32} {x4 : Int32} {x5 : Int32} {x6 : Int32} {w : Wd} {kc : Int32 → Int32 → Wd → Option (Int32 × Wd)} {kx121 : Int32 → Wd → Option (Int32 × Wd)} {out : Int32 × Wd} (hf : m_X3_askUpward_j115 x1 x2 x3 x4 x5 x6 w kc kx121 = some out) (hk_kc : ∀ (y4 : Int32) (y6 : Int32) (v : Wd), kc y4 y6 v = some out → WJ p l e rmX3_askUpward s m args below meth c (MQ below (QWi D 490 ad (cellC cI cL cS ad) out.1 out.2) args s 0 0 (AW 490 ad)) 7 D 490 ad (cellC cI cL cS ad) v 73 [(0, .ref (ad 476)), (1, .int x1), (2, .int x2), (3, .int x3), (4, .int y4), (5, .int x5), (6, .int y6)] []) (hk_kx121 : ∀ (y4 : Int32) (v : Wd), kx121 y4 v = some out → WJ p l e rmX3_askUpward s m args below meth c (MQ below (QWi D 490 ad (cellC cI cL cS ad) out.1 out.2) args s 0 0 (AW 490 ad)) 7 D 490 ad (cellC cI cL cS ad) v 121 [(0, .ref (ad 476)), (1, .int x1), (2, .int x2), (3, .int x3), (4, .int y4), (5, .int x5)] []) : WJ p l e rmX3_askUpward s m args below meth c (MQ below (QWi D 490 ad (cellC cI cL cS ad) out.1 out.2) args s 0 0 (AW 490 ad)) 7 D 490 ad (cellC cI cL cS ad) w 115 [(0, .ref (ad 476)), (1, .int x1), (2, .int x2), (3, .int x3), (4, .int x4), (5, .int x5), (6, .int x6)] [] := by
  unfold m_X3_askUpward_j115 at hf
  refine j_iinc (v := (x6 + (nI 1))) (lv' := [(0, .ref (ad 476)), (1, .int x1), (2, .int x2), (3, .int x3), (4, .int x4), (5, .int x5), (6, .int (x6 + (nI 1)))]) X 6 dX3_askUpward_115 rfl rfl (by decide) rfl ?_
  refine j_goto (tgt := 73) X dX3_askUpward_118 (by decide) ?_
  exact hk_kc _ _ _ hf
set_option maxRecDepth 100000 in
set_option maxHeartbeats 4000000 in
theorem t_X3_askUpward_L73 (X : CX p rmX3_askUpward s m args c cX3_askUpward 7 RX3 wsX3_askUpward D (tC cI cL cS) 490 ad) (Y : RX meth (some .int)) {x1 : Int32} {x2 : Int32} {x3 : Int32} {x5 : Int32} {kx121 : Int32 → Wd → Option (Int32 × Wd)} {out : Int32 × Wd} (hk_kx121 : ∀ (y4 : Int32) (v : Wd), kx121 y4 v = some out → WJ p l e rmX3_askUpward s m args below meth c (MQ below (QWi D 490 ad (cellC cI cL cS ad) out.1 out.2) args s 0 0 (AW 490 ad)) 7 D 490 ad (cellC cI cL cS ad) v 121 [(0, .ref (ad 476)), (1, .int x1), (2, .int x2), (3, .int x3), (4, .int y4), (5, .int x5)] []) : ∀ (n : Nat) (x4 : Int32) (x6 : Int32) (w : Wd), m_X3_askUpward_L73 x1 x2 x3 x5 kx121 n x4 x6 w = some out → WJ p l e rmX3_askUpward s m args below meth c (MQ below (QWi D 490 ad (cellC cI cL cS ad) out.1 out.2) args s 0 0 (AW 490 ad)) 7 D 490 ad (cellC cI cL cS ad) w 73 [(0, .ref (ad 476)), (1, .int x1), (2, .int x2), (3, .int x3), (4, .int x4), (5, .int x5), (6, .int x6)] [] := by
  intro n
  induction n with
  | zero => intro x4 x6 w hf; exact f_n hf
  | succ n ih =>
    intro x4 x6 w hf
    rw [m_X3_askUpward_L73] at hf
    refine j_iload X 6 dX3_askUpward_73 rfl ?_
    refine j_aload_n X 0 dX3_askUpward_75 rfl rfl ?_
    refine j_get (ref := "ProxyVersions$Network") (index := 14) (v := .ref (ad 480)) X oNe inX3_askUpward_X3 rfl 2 (by decide) (List.mem_of_getElem? (i := 2) rfl) rfl rfl dX3_askUpward_76 ?_
    obtain ⟨o1, ho1, hf⟩ := f_bd hf
    refine j_callVi X (oLn ln480) rfl rfl [] (c_X2_length X.2.2.2.2.2.2.2 ln480 ho1) (cwV 0 X.2.2.2.2.1 gX3_askUpward_X2_length rfl rfl rfl (by decide +kernel) ⟨Nat.le_of_ble_eq_true rfl, Nat.le_of_ble_eq_true rfl⟩) rfl rfl (Nat.le_of_ble_eq_true rfl) dX3_askUpward_79 ?_
    refine j_icmp_ge (tgt := 121) X dX3_askUpward_82 (by decide) (fun c => ?_) (fun c => ?_)
    · replace hf := f_t c hf
      refine j_sub [0, 1, 2, 3, 4, 5] rfl ?_
      exact hk_kx121 _ _ hf
    replace hf := f_f c hf
    refine j_aload_n X 0 dX3_askUpward_85 rfl rfl ?_
    refine j_iload X 5 dX3_askUpward_86 rfl ?_
    refine j_aload_n X 0 dX3_askUpward_88 rfl rfl ?_
    refine j_get (ref := "ProxyVersions$Network") (index := 20) (v := .ref (ad 50)) X oNe inX3_askUpward_X3 rfl 0 (by decide) (List.mem_of_getElem? (i := 1) rfl) rfl rfl dX3_askUpward_89 ?_
    refine j_iload X 5 dX3_askUpward_92 rfl ?_
    obtain ⟨o2, ho2, hf⟩ := f_bd hf
    refine j_callVi X oS0 rfl rfl [.int x5] (c_X5_parentOf X.2.2.2.2.2.2.2 ho2) (cwV 1 X.2.2.2.2.1 gX3_askUpward_X5_parentOf rfl rfl rfl (by decide +kernel) ⟨Nat.le_of_ble_eq_true rfl, Nat.le_of_ble_eq_true rfl⟩) rfl rfl (Nat.le_of_ble_eq_true rfl) dX3_askUpward_94 ?_
    refine j_aload_n X 0 dX3_askUpward_97 rfl rfl ?_
    refine j_get (ref := "ProxyVersions$Network") (index := 14) (v := .ref (ad 480)) X oNe inX3_askUpward_X3 rfl 2 (by decide) (List.mem_of_getElem? (i := 2) rfl) rfl rfl dX3_askUpward_98 ?_
    refine j_iload X 6 dX3_askUpward_101 rfl ?_
    obtain ⟨o3, ho3, hf⟩ := f_bd hf
    refine j_callVi X (oLn ln480) rfl rfl [.int x6] (c_X2_at X.2.2.2.2.2.2.2 ln480 ho3) (cwV 1 X.2.2.2.2.1 gX3_askUpward_X2_at rfl rfl rfl (by decide +kernel) ⟨Nat.le_of_ble_eq_true rfl, Nat.le_of_ble_eq_true rfl⟩) rfl rfl (Nat.le_of_ble_eq_true rfl) dX3_askUpward_103 ?_
    obtain ⟨o4, ho4, hf⟩ := f_bd hf
    refine j_callVi X oNe rfl rfl [.int x5, .int o2, .int o3] (c_X3_arrive X.2.2.2.2.2.2.2 ho4) (cwV 3 X.2.2.2.2.1 gX3_askUpward_X3_arrive rfl rfl rfl (by decide +kernel) ⟨Nat.le_of_ble_eq_true rfl, Nat.le_of_ble_eq_true rfl⟩) rfl rfl (Nat.le_of_ble_eq_true rfl) dX3_askUpward_106 ?_
    refine j_if_eq (tgt := 115) X dX3_askUpward_109 (by decide) (fun c => ?_) (fun c => ?_)
    · replace hf := f_t c hf
      exact t_X3_askUpward_j115 X Y hf ih hk_kx121
    replace hf := f_f c hf
    refine j_iinc (v := (x4 + (nI 1))) (lv' := [(0, .ref (ad 476)), (1, .int x1), (2, .int x2), (3, .int x3), (4, .int (x4 + (nI 1))), (5, .int x5), (6, .int x6)]) X 4 dX3_askUpward_112 rfl rfl (by decide) rfl ?_
    exact t_X3_askUpward_j115 X Y hf ih hk_kx121
set_option maxRecDepth 100000 in
set_option maxHeartbeats 4000000 in
theorem t_X3_askUpward_j126 (X : CX p rmX3_askUpward s m args c cX3_askUpward 7 RX3 wsX3_askUpward D (tC cI cL cS) 490 ad) (Y : RX meth (some .int)) {x1 : Int32} {x2 : Int32} {x3 : Int32} {x4 : Int32} {x5 : Int32} {w : Wd} {kc : Int32 → Int32 → Int32 → Wd → Option (Int32 × Wd)} {kx132 : Int32 → Int32 → Wd → Option (Int32 × Wd)} {out : Int32 × Wd} (hf : m_X3_askUpward_j126 x1 x2 x3 x4 x5 w kc kx132 = some out) (hk_kc : ∀ (y3 : Int32) (y4 : Int32) (y5 : Int32) (v : Wd), kc y3 y4 y5 v = some out → WJ p l e rmX3_askUpward s m args below meth c (MQ below (QWi D 490 ad (cellC cI cL cS ad) out.1 out.2) args s 0 0 (AW 490 ad)) 7 D 490 ad (cellC cI cL cS ad) v 29 [(0, .ref (ad 476)), (1, .int x1), (2, .int x2), (3, .int y3), (4, .int y4), (5, .int y5)] []) (hk_kx132 : ∀ (y3 : Int32) (y4 : Int32) (v : Wd), kx132 y3 y4 v = some out → WJ p l e rmX3_askUpward s m args below meth c (MQ below (QWi D 490 ad (cellC cI cL cS ad) out.1 out.2) args s 0 0 (AW 490 ad)) 7 D 490 ad (cellC cI cL cS ad) v 132 [(0, .ref (ad 476)), (2, .int x2), (3, .int y3), (4, .int y4)] []) : WJ p l e rmX3_askUpward s m args below meth c (MQ below (QWi D 490 ad (cellC cI cL cS ad) out.1 out.2) args s 0 0 (AW 490 ad)) 7 D 490 ad (cellC cI cL cS ad) w 126 [(0, .ref (ad 476)), (1, .int x1), (2, .int x2), (3, .int x3), (4, .int x4), (5, .int x5)] [] := by
  unfold m_X3_askUpward_j126 at hf
  refine j_iinc (v := (x5 + (nI 1))) (lv' := [(0, .ref (ad 476)), (1, .int x1), (2, .int x2), (3, .int x3), (4, .int x4), (5, .int (x5 + (nI 1)))]) X 5 dX3_askUpward_126 rfl rfl (by decide) rfl ?_
  refine j_goto (tgt := 29) X dX3_askUpward_129 (by decide) ?_
  exact hk_kc _ _ _ _ hf
set_option maxRecDepth 100000 in
set_option maxHeartbeats 4000000 in
theorem t_X3_askUpward_j61 (X : CX p rmX3_askUpward s m args c cX3_askUpward 7 RX3 wsX3_askUpward D (tC cI cL cS) 490 ad) (Y : RX meth (some .int)) {x1 : Int32} {x2 : Int32} {x3 : Int32} {x5 : Int32} {w : Wd} {kc : Int32 → Int32 → Int32 → Wd → Option (Int32 × Wd)} {kx132 : Int32 → Int32 → Wd → Option (Int32 × Wd)} {out : Int32 × Wd} (hf : m_X3_askUpward_j61 x1 x2 x3 x5 w kc kx132 = some out) (hk_kc : ∀ (y3 : Int32) (y4 : Int32) (y5 : Int32) (v : Wd), kc y3 y4 y5 v = some out → WJ p l e rmX3_askUpward s m args below meth c (MQ below (QWi D 490 ad (cellC cI cL cS ad) out.1 out.2) args s 0 0 (AW 490 ad)) 7 D 490 ad (cellC cI cL cS ad) v 29 [(0, .ref (ad 476)), (1, .int x1), (2, .int x2), (3, .int y3), (4, .int y4), (5, .int y5)] []) (hk_kx132 : ∀ (y3 : Int32) (y4 : Int32) (v : Wd), kx132 y3 y4 v = some out → WJ p l e rmX3_askUpward s m args below meth c (MQ below (QWi D 490 ad (cellC cI cL cS ad) out.1 out.2) args s 0 0 (AW 490 ad)) 7 D 490 ad (cellC cI cL cS ad) v 132 [(0, .ref (ad 476)), (2, .int x2), (3, .int y3), (4, .int y4)] []) : WJ p l e rmX3_askUpward s m args below meth c (MQ below (QWi D 490 ad (cellC cI cL cS ad) out.1 out.2) args s 0 0 (AW 490 ad)) 7 D 490 ad (cellC cI cL cS ad) w 61 [(0, .ref (ad 476)), (1, .int x1), (2, .int x2), (3, .int x3), (5, .int x5)] [] := by
  unfold m_X3_askUpward_j61 at hf
  refine j_aload_n X 0 dX3_askUpward_61 rfl rfl ?_
  refine j_iload X 4 dX3_askUpward_62 rfl ?_
  obtain ⟨o1, ho1, hf⟩ := f_bd hf
  refine j_callVv X oNe rfl rfl [.int x5] (c_X3_findGapsToFill X.2.2.2.2.2.2.2 ho1) (cwV 1 X.2.2.2.2.1 gX3_askUpward_X3_findGapsToFill rfl rfl rfl (by decide +kernel) ⟨Nat.le_of_ble_eq_true rfl, Nat.le_of_ble_eq_true rfl⟩) rfl rfl (Nat.le_of_ble_eq_true rfl) dX3_askUpward_64 ?_
  refine j_iconst X (v := (nI 0)) (by decide) dX3_askUpward_67 ?_
  refine j_istore (lv' := [(0, .ref (ad 476)), (1, .int x1), (2, .int x2), (3, .int x3), (4, .int (nI 0)), (5, .int x5)]) X dX3_askUpward_68 (by decide) rfl ?_
  refine j_iconst X (v := (nI 0)) (by decide) dX3_askUpward_70 ?_
  refine j_istore (lv' := [(0, .ref (ad 476)), (1, .int x1), (2, .int x2), (3, .int x3), (4, .int (nI 0)), (5, .int x5), (6, .int (nI 0))]) X dX3_askUpward_71 (by decide) rfl ?_
  refine t_X3_askUpward_L73 X Y ?_ _ _ _ _ hf
  intro x4_2 w3 hf
  refine j_iload_n X 3 dX3_askUpward_121 rfl rfl ?_
  refine j_iload X 4 dX3_askUpward_122 rfl ?_
  refine j_iadd X dX3_askUpward_124 ?_
  obtain ⟨x3_4, ex3_4, hf⟩ := f_lt hf
  refine j_top ex3_4 ?_
  refine j_istore_n (lv' := [(0, .ref (ad 476)), (1, .int x1), (2, .int x2), (3, .int x3_4), (4, .int x4_2), (5, .int x5)]) X dX3_askUpward_125 rfl (by decide) rfl ?_
  exact t_X3_askUpward_j126 X Y hf hk_kc hk_kx132
set_option maxRecDepth 100000 in
set_option maxHeartbeats 4000000 in
theorem t_X3_askUpward_L29 (X : CX p rmX3_askUpward s m args c cX3_askUpward 7 RX3 wsX3_askUpward D (tC cI cL cS) 490 ad) (Y : RX meth (some .int)) {x1 : Int32} {x2 : Int32} {kx132 : Int32 → Int32 → Wd → Option (Int32 × Wd)} {out : Int32 × Wd} (hk_kx132 : ∀ (y3 : Int32) (y4 : Int32) (v : Wd), kx132 y3 y4 v = some out → WJ p l e rmX3_askUpward s m args below meth c (MQ below (QWi D 490 ad (cellC cI cL cS ad) out.1 out.2) args s 0 0 (AW 490 ad)) 7 D 490 ad (cellC cI cL cS ad) v 132 [(0, .ref (ad 476)), (2, .int x2), (3, .int y3), (4, .int y4)] []) : ∀ (n : Nat) (x3 : Int32) (x4 : Int32) (x5 : Int32) (w : Wd), m_X3_askUpward_L29 x1 x2 kx132 n x3 x4 x5 w = some out → WJ p l e rmX3_askUpward s m args below meth c (MQ below (QWi D 490 ad (cellC cI cL cS ad) out.1 out.2) args s 0 0 (AW 490 ad)) 7 D 490 ad (cellC cI cL cS ad) w 29 [(0, .ref (ad 476)), (1, .int x1), (2, .int x2), (3, .int x3), (4, .int x4), (5, .int x5)] [] := by
  intro n
  induction n with
  | zero => intro x3 x4 x5 w hf; exact f_n hf
  | succ n ih =>
    intro x3 x4 x5 w hf
    rw [m_X3_askUpward_L29] at hf
    refine j_iload X 5 dX3_askUpward_29 rfl ?_
    refine j_bipush X (v := (nI 8)) (by decide) dX3_askUpward_31 ?_
    refine j_icmp_ge (tgt := 132) X dX3_askUpward_33 (by decide) (fun c => ?_) (fun c => ?_)
    · replace hf := f_t c hf
      refine j_sub [0, 2, 3, 4] rfl ?_
      exact hk_kx132 _ _ _ hf
    replace hf := f_f c hf
    refine j_iload X 5 dX3_askUpward_36 rfl ?_
    refine j_iload_n X 1 dX3_askUpward_38 rfl rfl ?_
    refine j_icmp_gt (tgt := 132) X dX3_askUpward_39 (by decide) (fun c => ?_) (fun c => ?_)
    · replace hf := f_t c hf
      refine j_sub [0, 2, 3, 4] rfl ?_
      exact hk_kx132 _ _ _ hf
    replace hf := f_f c hf
    refine j_iload X 5 dX3_askUpward_42 rfl ?_
    refine j_iload_n X 1 dX3_askUpward_44 rfl rfl ?_
    refine j_icmp_eq (tgt := 61) X dX3_askUpward_45 (by decide) (fun c => ?_) (fun c => ?_)
    · replace hf := f_t c hf
      refine j_sub [0, 1, 2, 3, 5] rfl ?_
      exact t_X3_askUpward_j61 X Y hf ih hk_kx132
    replace hf := f_f c hf
    refine j_aload_n X 0 dX3_askUpward_48 rfl rfl ?_
    refine j_get (ref := "ProxyVersions$Network") (index := 20) (v := .ref (ad 50)) X oNe inX3_askUpward_X3 rfl 0 (by decide) (List.mem_of_getElem? (i := 1) rfl) rfl rfl dX3_askUpward_49 ?_
    refine j_iload X 5 dX3_askUpward_52 rfl ?_
    refine j_iload_n X 1 dX3_askUpward_54 rfl rfl ?_
    obtain ⟨o1, ho1, hf⟩ := f_bd hf
    refine j_callVi X oS0 rfl rfl [.int x5, .int x1] (c_X5_isAbove X.2.2.2.2.2.2.2 ho1) (cwV 2 X.2.2.2.2.1 gX3_askUpward_X5_isAbove rfl rfl rfl (by decide +kernel) ⟨Nat.le_of_ble_eq_true rfl, Nat.le_of_ble_eq_true rfl⟩) rfl rfl (Nat.le_of_ble_eq_true rfl) dX3_askUpward_55 ?_
    refine j_if_eq (tgt := 126) X dX3_askUpward_58 (by decide) (fun c => ?_) (fun c => ?_)
    · replace hf := f_t c hf
      exact t_X3_askUpward_j126 X Y hf ih hk_kx132
    replace hf := f_f c hf
    refine j_sub [0, 1, 2, 3, 5] rfl ?_
    exact t_X3_askUpward_j61 X Y hf ih hk_kx132
set_option maxRecDepth 100000 in
set_option maxHeartbeats 4000000 in
theorem t_X3_askUpward_j132 (X : CX p rmX3_askUpward s m args c cX3_askUpward 7 RX3 wsX3_askUpward D (tC cI cL cS) 490 ad) (Y : RX meth (some .int)) {x2 : Int32} {x3 : Int32} {x4 : Int32} {w : Wd} {out : Int32 × Wd} (hf : m_X3_askUpward_j132 x2 x3 x4 w = some out) : WJ p l e rmX3_askUpward s m args below meth c (MQ below (QWi D 490 ad (cellC cI cL cS ad) out.1 out.2) args s 0 0 (AW 490 ad)) 7 D 490 ad (cellC cI cL cS ad) w 132 [(0, .ref (ad 476)), (2, .int x2), (3, .int x3), (4, .int x4)] [] := by
  unfold m_X3_askUpward_j132 at hf
  refine j_iload_n X 2 dX3_askUpward_132 rfl rfl ?_
  refine j_if_ne (tgt := 152) X dX3_askUpward_133 (by decide) (fun c => ?_) (fun c => ?_)
  · replace hf := f_t c hf
    refine j_iload X 3 dX3_askUpward_152 rfl ?_
    exact j_iret X Y (f_p1 hf) (f_p2 hf) dX3_askUpward_154
  replace hf := f_fn c hf
  refine j_aload_n X 0 dX3_askUpward_136 rfl rfl ?_
  refine j_get (ref := "ProxyVersions$Network") (index := 20) (v := .ref (ad 50)) X oNe inX3_askUpward_X3 rfl 0 (by decide) (List.mem_of_getElem? (i := 1) rfl) rfl rfl dX3_askUpward_137 ?_
  refine j_getN (ref := "ProxyVersions$State") (index := 134) (host := "ProxyVersions") (v := .int (w 50 3)) X oS0 inX3_askUpward_X5 rfl 3 (by decide) (List.mem_of_getElem? (i := 8) rfl) rfl rfl dX3_askUpward_140 ?_
  refine j_iload_n X 1 dX3_askUpward_143 rfl rfl ?_
  refine j_icmp_ne (tgt := 152) X dX3_askUpward_144 (by decide) (fun c => ?_) (fun c => ?_)
  · replace hf := f_t c hf
    refine j_iload X 3 dX3_askUpward_152 rfl ?_
    exact j_iret X Y (f_p1 hf) (f_p2 hf) dX3_askUpward_154
  replace hf := f_fn c hf
  refine j_bipush X (v := (-9 : Int32)) (by decide) dX3_askUpward_147 ?_
  refine j_goto (tgt := 154) X dX3_askUpward_149 (by decide) ?_
  exact j_iret X Y (f_p1 hf) (f_p2 hf) dX3_askUpward_154
set_option maxRecDepth 100000 in
set_option maxHeartbeats 4000000 in
theorem c_X3_askUpward (hI : Inj 490 ad) {x1 : Int32} {w : Wd} {out : Int32 × Wd} (hf : m_X3_askUpward x1 w = some out) : Met l yX3_askUpward wsX3_askUpward rmX3_askUpward (va_Pc [.ref (ad 476), .int x1] (PW D (tC cI cL cS) 490 ad (cellC cI cL cS ad) w)) (QWi D 490 ad (cellC cI cL cS ad) out.1 out.2) 0 0 (AW 490 ad) := by
  refine mk_met (maxL := 7) (ret := (some .int)) RX3 hI (by decide) rfl rfl (Nat.le_of_ble_eq_true rfl) rfl rfl (fun p e s m args below meth c X Y => ?_)
  unfold m_X3_askUpward at hf
  refine j_aload_n X 0 dX3_askUpward_0 rfl rfl ?_
  refine j_get (ref := "ProxyVersions$Network") (index := 20) (v := .ref (ad 50)) X oNe inX3_askUpward_X3 rfl 0 (by decide) (List.mem_of_getElem? (i := 1) rfl) rfl rfl dX3_askUpward_1 ?_
  refine j_iload_n X 1 dX3_askUpward_4 rfl rfl ?_
  obtain ⟨o1, ho1, hf⟩ := f_bd hf
  refine j_callVi X oS0 rfl rfl [.int x1] (c_X5_hasChild X.2.2.2.2.2.2.2 ho1) (cwV 1 X.2.2.2.2.1 gX3_askUpward_X5_hasChild rfl rfl rfl (by decide +kernel) ⟨Nat.le_of_ble_eq_true rfl, Nat.le_of_ble_eq_true rfl⟩) rfl rfl (Nat.le_of_ble_eq_true rfl) dX3_askUpward_5 ?_
  refine j_if_ne (tgt := 13) X dX3_askUpward_8 (by decide) (fun c => ?_) (fun c => ?_)
  · replace hf := f_t c hf
    refine j_aload_n X 0 dX3_askUpward_13 rfl rfl ?_
    refine j_get (ref := "ProxyVersions$Network") (index := 20) (v := .ref (ad 50)) X oNe inX3_askUpward_X3 rfl 0 (by decide) (List.mem_of_getElem? (i := 1) rfl) rfl rfl dX3_askUpward_14 ?_
    refine j_getN (ref := "ProxyVersions$State") (index := 134) (host := "ProxyVersions") (v := .int (w 50 3)) X oS0 inX3_askUpward_X5 rfl 3 (by decide) (List.mem_of_getElem? (i := 8) rfl) rfl rfl dX3_askUpward_17 ?_
    obtain ⟨x2_2, ex2_2, hf⟩ := f_lt hf
    refine j_top ex2_2 ?_
    refine j_istore_n (lv' := [(0, .ref (ad 476)), (1, .int x1), (2, .int x2_2)]) X dX3_askUpward_20 rfl (by decide) rfl ?_
    refine j_iconst X (v := (nI 0)) (by decide) dX3_askUpward_21 ?_
    refine j_istore_n (lv' := [(0, .ref (ad 476)), (1, .int x1), (2, .int x2_2), (3, .int (nI 0))]) X dX3_askUpward_22 rfl (by decide) rfl ?_
    refine j_iconst X (v := (nI 0)) (by decide) dX3_askUpward_23 ?_
    refine j_istore (lv' := [(0, .ref (ad 476)), (1, .int x1), (2, .int x2_2), (3, .int (nI 0)), (4, .int (nI 0))]) X dX3_askUpward_24 (by decide) rfl ?_
    refine j_iconst X (v := (nI 1)) (by decide) dX3_askUpward_26 ?_
    refine j_istore (lv' := [(0, .ref (ad 476)), (1, .int x1), (2, .int x2_2), (3, .int (nI 0)), (4, .int (nI 0)), (5, .int (nI 1))]) X dX3_askUpward_27 (by decide) rfl ?_
    refine t_X3_askUpward_L29 X Y ?_ _ _ _ _ _ hf
    intro x3_3 x4_4 w5 hf
    exact t_X3_askUpward_j132 X Y hf
  replace hf := f_fn c hf
  refine j_iconst X (v := (-1 : Int32)) (by decide) dX3_askUpward_11 ?_
  exact j_iret X Y (f_p1 hf) (f_p2 hf) dX3_askUpward_12
abbrev rmX5_childrenOf : Room := { frames := 2, cells := 0, slots := 0, locals := 43 }
theorem inX5_childrenOf_X5 : ∀ w ∈ wsX50, w ∈ wsX5_childrenOf := fun _ h => List.mem_cons_of_mem _ (List.mem_append_right _ h)
set_option maxRecDepth 100000 in
set_option maxHeartbeats 4000000 in
theorem t_X5_childrenOf_j24 (X : CX p rmX5_childrenOf s m args c cX5_childrenOf 4 RX5 wsX5_childrenOf D (tC cI cL cS) 490 ad) (Y : RX meth (some .int)) {x1 : Int32} {x2 : Int32} {x3 : Int32} {w : Wd} {kc : Int32 → Int32 → Option (Int32)} {out : Int32} (hf : m_X5_childrenOf_j24 x1 x2 x3 w kc = some out) (hk_kc : ∀ (y2 : Int32) (y3 : Int32), kc y2 y3 = some out → WJ p l e rmX5_childrenOf s m args below meth c (MQ below (QWi D 490 ad (cellC cI cL cS ad) out w) args s 0 0 (AW 490 ad)) 4 D 490 ad (cellC cI cL cS ad) w 4 [(0, .ref (ad 50)), (1, .int x1), (2, .int y2), (3, .int y3)] []) : WJ p l e rmX5_childrenOf s m args below meth c (MQ below (QWi D 490 ad (cellC cI cL cS ad) out w) args s 0 0 (AW 490 ad)) 4 D 490 ad (cellC cI cL cS ad) w 24 [(0, .ref (ad 50)), (1, .int x1), (2, .int x2), (3, .int x3)] [] := by
  unfold m_X5_childrenOf_j24 at hf
  refine j_iinc (v := (x3 + (nI 1))) (lv' := [(0, .ref (ad 50)), (1, .int x1), (2, .int x2), (3, .int (x3 + (nI 1)))]) X 3 dX5_childrenOf_24 rfl rfl (by decide) rfl ?_
  refine j_goto (tgt := 4) X dX5_childrenOf_27 (by decide) ?_
  exact hk_kc _ _ hf
set_option maxRecDepth 100000 in
set_option maxHeartbeats 4000000 in
theorem t_X5_childrenOf_L4 (X : CX p rmX5_childrenOf s m args c cX5_childrenOf 4 RX5 wsX5_childrenOf D (tC cI cL cS) 490 ad) (Y : RX meth (some .int)) {x1 : Int32} {w : Wd} {out : Int32} : ∀ (n : Nat) (x2 : Int32) (x3 : Int32), m_X5_childrenOf_L4 x1 w n x2 x3 = some out → WJ p l e rmX5_childrenOf s m args below meth c (MQ below (QWi D 490 ad (cellC cI cL cS ad) out w) args s 0 0 (AW 490 ad)) 4 D 490 ad (cellC cI cL cS ad) w 4 [(0, .ref (ad 50)), (1, .int x1), (2, .int x2), (3, .int x3)] [] := by
  intro n
  induction n with
  | zero => intro x2 x3 hf; exact f_n hf
  | succ n ih =>
    intro x2 x3 hf
    rw [m_X5_childrenOf_L4] at hf
    refine j_iload_n X 3 dX5_childrenOf_4 rfl rfl ?_
    refine j_aload_n X 0 dX5_childrenOf_5 rfl rfl ?_
    refine j_get (ref := "ProxyVersions$State") (index := 9) (v := .int (w 50 0)) X oS0 inX5_childrenOf_X5 rfl 0 (by decide) (List.mem_of_getElem? (i := 1) rfl) rfl rfl dX5_childrenOf_6 ?_
    refine j_icmp_ge (tgt := 30) X dX5_childrenOf_9 (by decide) (fun c => ?_) (fun c => ?_)
    · replace hf := f_t c hf
      refine j_iload_n X 2 dX5_childrenOf_30 rfl rfl ?_
      exact j_iret X Y (f_s hf) rfl dX5_childrenOf_31
    replace hf := f_f c hf
    refine j_aload_n X 0 dX5_childrenOf_12 rfl rfl ?_
    refine j_iload_n X 3 dX5_childrenOf_13 rfl rfl ?_
    refine j_iload_n X 1 dX5_childrenOf_14 rfl rfl ?_
    obtain ⟨o1, ho1, hf⟩ := f_bd hf
    refine j_callVi X oS0 rfl rfl [.int x3, .int x1] (c_X5_isChildOf X.2.2.2.2.2.2.2 ho1) (cwV 2 X.2.2.2.2.1 gX5_childrenOf_X5_isChildOf rfl rfl rfl (by decide +kernel) ⟨Nat.le_of_ble_eq_true rfl, Nat.le_of_ble_eq_true rfl⟩) rfl rfl (Nat.le_of_ble_eq_true rfl) dX5_childrenOf_15 ?_
    refine j_if_eq (tgt := 24) X dX5_childrenOf_18 (by decide) (fun c => ?_) (fun c => ?_)
    · replace hf := f_t c hf
      exact t_X5_childrenOf_j24 X Y hf ih
    replace hf := f_f c hf
    refine j_iinc (v := (x2 + (nI 1))) (lv' := [(0, .ref (ad 50)), (1, .int x1), (2, .int (x2 + (nI 1))), (3, .int x3)]) X 2 dX5_childrenOf_21 rfl rfl (by decide) rfl ?_
    exact t_X5_childrenOf_j24 X Y hf ih
set_option maxRecDepth 100000 in
set_option maxHeartbeats 4000000 in
theorem c_X5_childrenOf (hI : Inj 490 ad) {x1 : Int32} {w : Wd} {out : Int32} (hf : m_X5_childrenOf x1 w = some out) : Met l yX5_childrenOf wsX5_childrenOf rmX5_childrenOf (va_Pc [.ref (ad 50), .int x1] (PW D (tC cI cL cS) 490 ad (cellC cI cL cS ad) w)) (QWi D 490 ad (cellC cI cL cS ad) out w) 0 0 (AW 490 ad) := by
  refine mk_met (maxL := 4) (ret := (some .int)) RX5 hI (by decide) rfl rfl (Nat.le_of_ble_eq_true rfl) rfl rfl (fun p e s m args below meth c X Y => ?_)
  unfold m_X5_childrenOf at hf
  refine j_iconst X (v := (nI 0)) (by decide) dX5_childrenOf_0 ?_
  refine j_istore_n (lv' := [(0, .ref (ad 50)), (1, .int x1), (2, .int (nI 0))]) X dX5_childrenOf_1 rfl (by decide) rfl ?_
  refine j_iconst X (v := (nI 1)) (by decide) dX5_childrenOf_2 ?_
  refine j_istore_n (lv' := [(0, .ref (ad 50)), (1, .int x1), (2, .int (nI 0)), (3, .int (nI 1))]) X dX5_childrenOf_3 rfl (by decide) rfl ?_
  refine t_X5_childrenOf_L4 X Y _ _ _ hf
abbrev rmX5_stepsToRoot : Room := { frames := 1, cells := 0, slots := 0, locals := 21 }
set_option maxRecDepth 100000 in
set_option maxHeartbeats 4000000 in
theorem t_X5_stepsToRoot_L4 (X : CX p rmX5_stepsToRoot s m args c cX5_stepsToRoot 4 RX5 wsX5_stepsToRoot D (tC cI cL cS) 490 ad) (Y : RX meth (some .int)) {w : Wd} {out : Int32} : ∀ (n : Nat) (x2 : Int32) (x3 : Int32), m_X5_stepsToRoot_L4 w n x2 x3 = some out → WJ p l e rmX5_stepsToRoot s m args below meth c (MQ below (QWi D 490 ad (cellC cI cL cS ad) out w) args s 0 0 (AW 490 ad)) 4 D 490 ad (cellC cI cL cS ad) w 4 [(0, .ref (ad 50)), (2, .int x2), (3, .int x3)] [] := by
  intro n
  induction n with
  | zero => intro x2 x3 hf; exact f_n hf
  | succ n ih =>
    intro x2 x3 hf
    rw [m_X5_stepsToRoot_L4] at hf
    refine j_iload_n X 2 dX5_stepsToRoot_4 rfl rfl ?_
    refine j_if_eq (tgt := 26) X dX5_stepsToRoot_5 (by decide) (fun c => ?_) (fun c => ?_)
    · replace hf := f_t c hf
      refine j_iload_n X 1 dX5_stepsToRoot_26 rfl rfl ?_
      exact j_iret X Y (f_s hf) rfl dX5_stepsToRoot_27
    replace hf := f_f c hf
    refine j_iload_n X 1 dX5_stepsToRoot_8 rfl rfl ?_
    refine j_bipush X (v := (nI 8)) (by decide) dX5_stepsToRoot_9 ?_
    refine j_icmp_ge (tgt := 26) X dX5_stepsToRoot_11 (by decide) (fun c => ?_) (fun c => ?_)
    · replace hf := f_t c hf
      refine j_iload_n X 1 dX5_stepsToRoot_26 rfl rfl ?_
      exact j_iret X Y (f_s hf) rfl dX5_stepsToRoot_27
    replace hf := f_f c hf
    refine j_iinc (v := (x2 + (nI 1))) (lv' := [(0, .ref (ad 50)), (2, .int (x2 + (nI 1))), (3, .int x3)]) X 1 dX5_stepsToRoot_14 rfl rfl (by decide) rfl ?_
    refine j_aload_n X 0 dX5_stepsToRoot_17 rfl rfl ?_
    refine j_iload_n X 2 dX5_stepsToRoot_18 rfl rfl ?_
    obtain ⟨o1, ho1, hf⟩ := f_bd hf
    refine j_callVi X oS0 rfl rfl [.int x3] (c_X5_parentOf X.2.2.2.2.2.2.2 ho1) (cwV 1 X.2.2.2.2.1 gX5_stepsToRoot_X5_parentOf rfl rfl rfl (by decide +kernel) ⟨Nat.le_of_ble_eq_true rfl, Nat.le_of_ble_eq_true rfl⟩) rfl rfl (Nat.le_of_ble_eq_true rfl) dX5_stepsToRoot_19 ?_
    refine j_istore_n (lv' := [(0, .ref (ad 50)), (2, .int (x2 + (nI 1))), (3, .int o1)]) X dX5_stepsToRoot_22 rfl (by decide) rfl ?_
    refine j_goto (tgt := 4) X dX5_stepsToRoot_23 (by decide) ?_
    exact ih _ _ hf
set_option maxRecDepth 100000 in
set_option maxHeartbeats 4000000 in
theorem c_X5_stepsToRoot (hI : Inj 490 ad) {x1 : Int32} {w : Wd} {out : Int32} (hf : m_X5_stepsToRoot x1 w = some out) : Met l yX5_stepsToRoot wsX5_stepsToRoot rmX5_stepsToRoot (va_Pc [.ref (ad 50), .int x1] (PW D (tC cI cL cS) 490 ad (cellC cI cL cS ad) w)) (QWi D 490 ad (cellC cI cL cS ad) out w) 0 0 (AW 490 ad) := by
  refine mk_met (maxL := 4) (ret := (some .int)) RX5 hI (by decide) rfl rfl (Nat.le_of_ble_eq_true rfl) rfl rfl (fun p e s m args below meth c X Y => ?_)
  unfold m_X5_stepsToRoot at hf
  refine j_iconst X (v := (nI 0)) (by decide) dX5_stepsToRoot_0 ?_
  refine j_istore_n (lv' := [(0, .ref (ad 50)), (1, .int x1), (2, .int (nI 0))]) X dX5_stepsToRoot_1 rfl (by decide) rfl ?_
  refine j_iload_n X 1 dX5_stepsToRoot_2 rfl rfl ?_
  refine j_istore_n (lv' := [(0, .ref (ad 50)), (1, .int x1), (2, .int (nI 0)), (3, .int x1)]) X dX5_stepsToRoot_3 rfl (by decide) rfl ?_
  refine j_sub [0, 2, 3] rfl ?_
  refine t_X5_stepsToRoot_L4 X Y _ _ _ hf
end WALK12
