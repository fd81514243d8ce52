/-! ===== the bytecode does what the model says (printed by wip/whole/tools/gen.py) ===== -/
section WALK17
variable {p : Program} {l : Launch} {e : Env} {s : State} {m : MethodId} {args : Array Value} {below : List Frame} {meth : Method} {c : Code} {D : va_G} {cI cL cS : ClassId} {ad : Nat → Nat}
abbrev rmX8_status : Room := { frames := 3, cells := 0, slots := 0, locals := 71 }
theorem inX8_status_X8 : ∀ w ∈ wsX80, w ∈ wsX8_status := fun _ h => List.mem_cons_of_mem _ (List.mem_append_right _ h)
set_option maxRecDepth 100000 in
set_option maxHeartbeats 4000000 in
theorem c_X8_status (hI : Inj 8 ad) {x1 : Int32} {x2 : Int32} {x3 : Int32} {w : Wd} {out : Int32 × Wd} (hf : m_X8_status x1 x2 x3 w = some out) : Met l yX8_status wsX8_status rmX8_status (va_Pc [.ref (ad 0), .int x1, .int x2, .int x3] (PW D (tR cI) 8 ad (cellR cI ad) w)) (QWi D 8 ad (cellR cI ad) out.1 out.2) 0 0 (AW 8 ad) := by
  refine mk_met (maxL := 4) (ret := (some .int)) RX8 hI (by decide) rfl rfl (Nat.le_of_ble_eq_true rfl) rfl rfl (fun p e s m args below meth c X Y => ?_)
  unfold m_X8_status at hf
  refine j_aload_n X 0 dX8_status_0 rfl rfl ?_
  refine j_iload_n X 1 dX8_status_1 rfl rfl ?_
  obtain ⟨o1, ho1, hf⟩ := f_bd hf
  refine j_callVi X oMo rfl rfl [.int x1] (c_X8_isProxy X.2.2.2.2.2.2.2 ho1) (cwV 1 X.2.2.2.2.1 gX8_status_X8_isProxy rfl rfl rfl (by decide +kernel) ⟨Nat.le_of_ble_eq_true rfl, Nat.le_of_ble_eq_true rfl⟩) rfl rfl (Nat.le_of_ble_eq_true rfl) dX8_status_2 ?_
  refine j_if_eq (tgt := 17) X dX8_status_5 (by decide) (fun c => ?_) (fun c => ?_)
  · replace hf := f_t c hf
    refine j_iconst X (v := (-1 : Int32)) (by decide) dX8_status_17 ?_
    exact j_iret X Y (f_p1 hf) (f_p2 hf) dX8_status_18
  replace hf := f_f c hf
  refine j_aload_n X 0 dX8_status_8 rfl rfl ?_
  refine j_iload_n X 2 dX8_status_9 rfl rfl ?_
  refine j_iload_n X 3 dX8_status_10 rfl rfl ?_
  obtain ⟨o2, ho2, hf⟩ := f_bd hf
  refine j_callVi X oMo rfl rfl [.int x2, .int x3] (c_X8_isUpdate X.2.2.2.2.2.2.2 ho2) (cwV 2 X.2.2.2.2.1 gX8_status_X8_isUpdate rfl rfl rfl (by decide +kernel) ⟨Nat.le_of_ble_eq_true rfl, Nat.le_of_ble_eq_true rfl⟩) rfl rfl (Nat.le_of_ble_eq_true rfl) dX8_status_11 ?_
  refine j_if_ne (tgt := 19) X dX8_status_14 (by decide) (fun c => ?_) (fun c => ?_)
  · replace hf := f_t c hf
    refine j_aload_n X 0 dX8_status_19 rfl rfl ?_
    refine j_iload_n X 1 dX8_status_20 rfl rfl ?_
    obtain ⟨o3, ho3, hf⟩ := f_bd hf
    refine j_callVv X oMo rfl rfl [.int x1] (c_X8_serves X.2.2.2.2.2.2.2 ho3) (cwV 1 X.2.2.2.2.1 gX8_status_X8_serves rfl rfl rfl (by decide +kernel) ⟨Nat.le_of_ble_eq_true rfl, Nat.le_of_ble_eq_true rfl⟩) rfl rfl (Nat.le_of_ble_eq_true rfl) dX8_status_21 ?_
    refine j_iload_n X 3 dX8_status_24 rfl rfl ?_
    refine j_aload_n X 0 dX8_status_25 rfl rfl ?_
    refine j_get (ref := "ProxyVersionsModel") (index := 22) (v := .ref (ad 5)) X oMo inX8_status_X8 rfl 6 (by decide) (List.mem_of_getElem? (i := 1) rfl) rfl rfl dX8_status_26 ?_
    refine j_iload_n X 2 dX8_status_29 rfl rfl ?_
    obtain ⟨hi4, hf⟩ := f_c hf
    refine j_iald X 0 rfl r5 hi4 dX8_status_30 ?_
    refine j_icmp_le (tgt := 50) X dX8_status_31 (by decide) (fun c => ?_) (fun c => ?_)
    · replace hf := f_t c hf
      refine j_aload_n X 0 dX8_status_50 rfl rfl ?_
      refine j_iload_n X 1 dX8_status_51 rfl rfl ?_
      refine j_bipush X (v := (nI 100)) (by decide) dX8_status_52 ?_
      refine j_iload_n X 2 dX8_status_54 rfl rfl ?_
      refine j_imul X dX8_status_55 ?_
      refine j_iload_n X 3 dX8_status_56 rfl rfl ?_
      refine j_iadd X dX8_status_57 ?_
      obtain ⟨o5, ho5, hf⟩ := f_bd hf
      refine j_callVi X oMo rfl rfl [.int x1, .int (((nI 100) * x2) + x3)] (c_X8_keptPlace X.2.2.2.2.2.2.2 ho5) (cwV 2 X.2.2.2.2.1 gX8_status_X8_keptPlace rfl rfl rfl (by decide +kernel) ⟨Nat.le_of_ble_eq_true rfl, Nat.le_of_ble_eq_true rfl⟩) rfl rfl (Nat.le_of_ble_eq_true rfl) dX8_status_58 ?_
      refine j_if_ge (tgt := 68) X dX8_status_61 (by decide) (fun c => ?_) (fun c => ?_)
      · replace hf := f_t c hf
        refine j_iconst X (v := (nI 3)) (by decide) dX8_status_68 ?_
        exact j_iret X Y (f_p1 hf) (f_p2 hf) dX8_status_69
      replace hf := f_f c hf
      refine j_iconst X (v := (nI 2)) (by decide) dX8_status_64 ?_
      refine j_goto (tgt := 69) X dX8_status_65 (by decide) ?_
      exact j_iret X Y (f_p1 hf) (f_p2 hf) dX8_status_69
    replace hf := f_f c hf
    refine j_aload_n X 0 dX8_status_34 rfl rfl ?_
    refine j_iload_n X 1 dX8_status_35 rfl rfl ?_
    refine j_iload_n X 2 dX8_status_36 rfl rfl ?_
    refine j_iload_n X 3 dX8_status_37 rfl rfl ?_
    obtain ⟨o6, ho6, hf⟩ := f_bd hf
    refine j_callVi X oMo rfl rfl [.int x1, .int x2, .int x3] (c_X8_knows X.2.2.2.2.2.2.2 ho6) (cwV 3 X.2.2.2.2.1 gX8_status_X8_knows rfl rfl rfl (by decide +kernel) ⟨Nat.le_of_ble_eq_true rfl, Nat.le_of_ble_eq_true rfl⟩) rfl rfl (Nat.le_of_ble_eq_true rfl) dX8_status_38 ?_
    refine j_if_eq (tgt := 48) X dX8_status_41 (by decide) (fun c => ?_) (fun c => ?_)
    · replace hf := f_t c hf
      refine j_iconst X (v := (nI 0)) (by decide) dX8_status_48 ?_
      exact j_iret X Y (f_p1 hf) (f_p2 hf) dX8_status_49
    replace hf := f_f c hf
    refine j_iconst X (v := (nI 1)) (by decide) dX8_status_44 ?_
    refine j_goto (tgt := 49) X dX8_status_45 (by decide) ?_
    exact j_iret X Y (f_p1 hf) (f_p2 hf) dX8_status_49
  replace hf := f_fn c hf
  refine j_iconst X (v := (-1 : Int32)) (by decide) dX8_status_17 ?_
  exact j_iret X Y (f_p1 hf) (f_p2 hf) dX8_status_18
abbrev rmX8_reaches : Room := { frames := 1, cells := 0, slots := 0, locals := 23 }
theorem inX8_reaches_X8 : ∀ w ∈ wsX80, w ∈ wsX8_reaches := fun _ h => List.mem_cons_of_mem _ (List.mem_append_right _ h)
set_option maxRecDepth 100000 in
set_option maxHeartbeats 4000000 in
theorem t_X8_reaches_j92 (X : CX p rmX8_reaches s m args c cX8_reaches 6 RX8 wsX8_reaches D (tR cI) 8 ad) (Y : RX meth (some .boolean)) {x1 : Int32} {x2 : Int32} {x3 : Int32} {x4 : Int32} {s1 : Int32} {s2 : Int32} {w : Wd} {kc : Int32 → Int32 → Wd → Option (Int32 × Wd)} {kx99 : Int32 → Wd → Option (Int32 × Wd)} {out : Int32 × Wd} (hf : m_X8_reaches_j92 x1 x2 x3 x4 s1 s2 w kc kx99 = some out) (hk_kc : ∀ (y1 : Int32) (y4 : Int32) (v : Wd), kc y1 y4 v = some out → WJ p l e rmX8_reaches s m args below meth c (MQ below (QWi D 8 ad (cellR cI ad) out.1 out.2) args s 0 0 (AW 8 ad)) 6 D 8 ad (cellR cI ad) v 24 [(0, .ref (ad 0)), (1, .int y1), (2, .int x2), (3, .int x3), (4, .int y4)] []) (hk_kx99 : ∀ (y1 : Int32) (v : Wd), kx99 y1 v = some out → WJ p l e rmX8_reaches s m args below meth c (MQ below (QWi D 8 ad (cellR cI ad) out.1 out.2) args s 0 0 (AW 8 ad)) 6 D 8 ad (cellR cI ad) v 99 [(0, .ref (ad 0)), (1, .int y1), (2, .int x2), (3, .int x3)] []) : WJ p l e rmX8_reaches s m args below meth c (MQ below (QWi D 8 ad (cellR cI ad) out.1 out.2) args s 0 0 (AW 8 ad)) 6 D 8 ad (cellR cI ad) w 92 [(0, .ref (ad 0)), (1, .int x1), (2, .int x2), (3, .int x3), (4, .int x4)] [.int s2, .int s1, .ref (ad 7)] := by
  unfold m_X8_reaches_j92 at hf
  obtain ⟨hi1, hf⟩ := f_c hf
  obtain ⟨w2, ew2, hf⟩ := f_lt hf
  refine j_iast X 0 rfl r7 hi1 dX8_reaches_92 ew2 ?_
  refine j_iinc (v := (x4 + (nI 1))) (lv' := [(0, .ref (ad 0)), (1, .int x1), (2, .int x2), (3, .int x3), (4, .int (x4 + (nI 1)))]) X 4 dX8_reaches_93 rfl rfl (by decide) rfl ?_
  refine j_goto (tgt := 24) X dX8_reaches_96 (by decide) ?_
  exact hk_kc _ _ _ hf
set_option maxRecDepth 100000 in
set_option maxHeartbeats 4000000 in
theorem t_X8_reaches_j61 (X : CX p rmX8_reaches s m args c cX8_reaches 6 RX8 wsX8_reaches D (tR cI) 8 ad) (Y : RX meth (some .boolean)) {x2 : Int32} {x3 : Int32} {x4 : Int32} {x5 : Int32} {s0 : Int32} {w : Wd} {kc : Int32 → Int32 → Wd → Option (Int32 × Wd)} {kx99 : Int32 → Wd → Option (Int32 × Wd)} {out : Int32 × Wd} (hf : m_X8_reaches_j61 x2 x3 x4 x5 s0 w kc kx99 = some out) (hk_kc : ∀ (y1 : Int32) (y4 : Int32) (v : Wd), kc y1 y4 v = some out → WJ p l e rmX8_reaches s m args below meth c (MQ below (QWi D 8 ad (cellR cI ad) out.1 out.2) args s 0 0 (AW 8 ad)) 6 D 8 ad (cellR cI ad) v 24 [(0, .ref (ad 0)), (1, .int y1), (2, .int x2), (3, .int x3), (4, .int y4)] []) (hk_kx99 : ∀ (y1 : Int32) (v : Wd), kx99 y1 v = some out → WJ p l e rmX8_reaches s m args below meth c (MQ below (QWi D 8 ad (cellR cI ad) out.1 out.2) args s 0 0 (AW 8 ad)) 6 D 8 ad (cellR cI ad) v 99 [(0, .ref (ad 0)), (1, .int y1), (2, .int x2), (3, .int x3)] []) : WJ p l e rmX8_reaches s m args below meth c (MQ below (QWi D 8 ad (cellR cI ad) out.1 out.2) args s 0 0 (AW 8 ad)) 6 D 8 ad (cellR cI ad) w 61 [(0, .ref (ad 0)), (2, .int x2), (3, .int x3), (4, .int x4), (5, .int x5)] [.int s0] := by
  unfold m_X8_reaches_j61 at hf
  refine j_istore_n (lv' := [(0, .ref (ad 0)), (1, .int s0), (2, .int x2), (3, .int x3), (4, .int x4), (5, .int x5)]) X dX8_reaches_61 rfl (by decide) rfl ?_
  refine j_aload_n X 0 dX8_reaches_62 rfl rfl ?_
  refine j_get (ref := "ProxyVersionsModel") (index := 28) (v := .ref (ad 7)) X oMo inX8_reaches_X8 rfl 9 (by decide) (List.mem_of_getElem? (i := 1) rfl) rfl rfl dX8_reaches_63 ?_
  refine j_iload X 4 dX8_reaches_66 rfl ?_
  refine j_iload X 5 dX8_reaches_68 rfl ?_
  refine j_aload_n X 0 dX8_reaches_70 rfl rfl ?_
  refine j_get (ref := "ProxyVersionsModel") (index := 28) (v := .ref (ad 7)) X oMo inX8_reaches_X8 rfl 9 (by decide) (List.mem_of_getElem? (i := 1) rfl) rfl rfl dX8_reaches_71 ?_
  refine j_iload X 4 dX8_reaches_74 rfl ?_
  obtain ⟨hi1, hf⟩ := f_c hf
  refine j_iald X 0 rfl r7 hi1 dX8_reaches_76 ?_
  refine j_icmp_le (tgt := 85) X dX8_reaches_77 (by decide) (fun c => ?_) (fun c => ?_)
  · replace hf := f_t c hf
    refine j_aload_n X 0 dX8_reaches_85 rfl rfl ?_
    refine j_get (ref := "ProxyVersionsModel") (index := 28) (v := .ref (ad 7)) X oMo inX8_reaches_X8 rfl 9 (by decide) (List.mem_of_getElem? (i := 1) rfl) rfl rfl dX8_reaches_86 ?_
    refine j_iload X 4 dX8_reaches_89 rfl ?_
    obtain ⟨hi2, hf⟩ := f_c hf
    refine j_iald X 0 rfl r7 hi2 dX8_reaches_91 ?_
    refine j_sub [0, 1, 2, 3, 4] rfl ?_
    exact t_X8_reaches_j92 X Y hf hk_kc hk_kx99
  replace hf := f_f c hf
  refine j_iload X 5 dX8_reaches_80 rfl ?_
  refine j_goto (tgt := 92) X dX8_reaches_82 (by decide) ?_
  refine j_sub [0, 1, 2, 3, 4] rfl ?_
  exact t_X8_reaches_j92 X Y hf hk_kc hk_kx99
set_option maxRecDepth 100000 in
set_option maxHeartbeats 4000000 in
theorem t_X8_reaches_j56 (X : CX p rmX8_reaches s m args c cX8_reaches 6 RX8 wsX8_reaches D (tR cI) 8 ad) (Y : RX meth (some .boolean)) {x2 : Int32} {x3 : Int32} {x4 : Int32} {x5 : Int32} {w : Wd} {kc : Int32 → Int32 → Wd → Option (Int32 × Wd)} {kx99 : Int32 → Wd → Option (Int32 × Wd)} {out : Int32 × Wd} (hf : m_X8_reaches_j56 x2 x3 x4 x5 w kc kx99 = some out) (hk_kc : ∀ (y1 : Int32) (y4 : Int32) (v : Wd), kc y1 y4 v = some out → WJ p l e rmX8_reaches s m args below meth c (MQ below (QWi D 8 ad (cellR cI ad) out.1 out.2) args s 0 0 (AW 8 ad)) 6 D 8 ad (cellR cI ad) v 24 [(0, .ref (ad 0)), (1, .int y1), (2, .int x2), (3, .int x3), (4, .int y4)] []) (hk_kx99 : ∀ (y1 : Int32) (v : Wd), kx99 y1 v = some out → WJ p l e rmX8_reaches s m args below meth c (MQ below (QWi D 8 ad (cellR cI ad) out.1 out.2) args s 0 0 (AW 8 ad)) 6 D 8 ad (cellR cI ad) v 99 [(0, .ref (ad 0)), (1, .int y1), (2, .int x2), (3, .int x3)] []) : WJ p l e rmX8_reaches s m args below meth c (MQ below (QWi D 8 ad (cellR cI ad) out.1 out.2) args s 0 0 (AW 8 ad)) 6 D 8 ad (cellR cI ad) w 56 [(0, .ref (ad 0)), (2, .int x2), (3, .int x3), (4, .int x4), (5, .int x5)] [] := by
  unfold m_X8_reaches_j56 at hf
  refine j_iconst X (v := (nI 1)) (by decide) dX8_reaches_56 ?_
  refine j_goto (tgt := 61) X dX8_reaches_57 (by decide) ?_
  exact t_X8_reaches_j61 X Y hf hk_kc hk_kx99
set_option maxRecDepth 100000 in
set_option maxHeartbeats 4000000 in
theorem t_X8_reaches_L24 (X : CX p rmX8_reaches s m args c cX8_reaches 6 RX8 wsX8_reaches D (tR cI) 8 ad) (Y : RX meth (some .boolean)) {x2 : Int32} {x3 : Int32} {kx99 : Int32 → Wd → Option (Int32 × Wd)} {out : Int32 × Wd} (hk_kx99 : ∀ (y1 : Int32) (v : Wd), kx99 y1 v = some out → WJ p l e rmX8_reaches s m args below meth c (MQ below (QWi D 8 ad (cellR cI ad) out.1 out.2) args s 0 0 (AW 8 ad)) 6 D 8 ad (cellR cI ad) v 99 [(0, .ref (ad 0)), (1, .int y1), (2, .int x2), (3, .int x3)] []) : ∀ (n : Nat) (x1 : Int32) (x4 : Int32) (w : Wd), m_X8_reaches_L24 x2 x3 kx99 n x1 x4 w = some out → WJ p l e rmX8_reaches s m args below meth c (MQ below (QWi D 8 ad (cellR cI ad) out.1 out.2) args s 0 0 (AW 8 ad)) 6 D 8 ad (cellR cI ad) w 24 [(0, .ref (ad 0)), (1, .int x1), (2, .int x2), (3, .int x3), (4, .int x4)] [] := by
  intro n
  induction n with
  | zero => intro x1 x4 w hf; exact f_n hf
  | succ n ih =>
    intro x1 x4 w hf
    rw [m_X8_reaches_L24] at hf
    refine j_iload X 4 dX8_reaches_24 rfl ?_
    refine j_iconst X (v := (nI 4)) (by decide) dX8_reaches_26 ?_
    refine j_icmp_ge (tgt := 99) X dX8_reaches_27 (by decide) (fun c => ?_) (fun c => ?_)
    · replace hf := f_t c hf
      refine j_sub [0, 1, 2, 3] rfl ?_
      exact hk_kx99 _ _ hf
    replace hf := f_f c hf
    refine j_aload_n X 0 dX8_reaches_30 rfl rfl ?_
    refine j_iload_n X 2 dX8_reaches_31 rfl rfl ?_
    refine j_iload_n X 3 dX8_reaches_32 rfl rfl ?_
    refine j_iload X 4 dX8_reaches_33 rfl ?_
    obtain ⟨o1, ho1, hf⟩ := f_bd hf
    refine j_callVi X oMo rfl rfl [.int x2, .int x3, .int x4] (c_X8_causeOf X.2.2.2.2.2.2.2 ho1) (cwV 3 X.2.2.2.2.1 gX8_reaches_X8_causeOf rfl rfl rfl (by decide +kernel) ⟨Nat.le_of_ble_eq_true rfl, Nat.le_of_ble_eq_true rfl⟩) rfl rfl (Nat.le_of_ble_eq_true rfl) dX8_reaches_35 ?_
    refine j_istore (lv' := [(0, .ref (ad 0)), (1, .int x1), (2, .int x2), (3, .int x3), (4, .int x4), (5, .int o1)]) X dX8_reaches_38 (by decide) rfl ?_
    refine j_iload_n X 1 dX8_reaches_40 rfl rfl ?_
    refine j_if_ne (tgt := 56) X dX8_reaches_41 (by decide) (fun c => ?_) (fun c => ?_)
    · replace hf := f_t c hf
      refine j_sub [0, 2, 3, 4, 5] rfl ?_
      exact t_X8_reaches_j56 X Y hf ih hk_kx99
    replace hf := f_fn c hf
    refine j_iload X 5 dX8_reaches_44 rfl ?_
    refine j_aload_n X 0 dX8_reaches_46 rfl rfl ?_
    refine j_get (ref := "ProxyVersionsModel") (index := 28) (v := .ref (ad 7)) X oMo inX8_reaches_X8 rfl 9 (by decide) (List.mem_of_getElem? (i := 1) rfl) rfl rfl dX8_reaches_47 ?_
    refine j_iload X 4 dX8_reaches_50 rfl ?_
    obtain ⟨hi2, hf⟩ := f_c hf
    refine j_iald X 0 rfl r7 hi2 dX8_reaches_52 ?_
    refine j_icmp_le (tgt := 60) X dX8_reaches_53 (by decide) (fun c => ?_) (fun c => ?_)
    · replace hf := f_t c hf
      refine j_iconst X (v := (nI 0)) (by decide) dX8_reaches_60 ?_
      refine j_sub [0, 2, 3, 4, 5] rfl ?_
      exact t_X8_reaches_j61 X Y hf ih hk_kx99
    replace hf := f_f c hf
    refine j_sub [0, 2, 3, 4, 5] rfl ?_
    exact t_X8_reaches_j56 X Y hf ih hk_kx99
set_option maxRecDepth 100000 in
set_option maxHeartbeats 4000000 in
theorem t_X8_reaches_L11 (X : CX p rmX8_reaches s m args c cX8_reaches 6 RX8 wsX8_reaches D (tR cI) 8 ad) (Y : RX meth (some .boolean)) {x2 : Int32} {kx105 : Int32 → Wd → Option (Int32 × Wd)} {out : Int32 × Wd} (hk_kx105 : ∀ (y1 : Int32) (v : Wd), kx105 y1 v = some out → WJ p l e rmX8_reaches s m args below meth c (MQ below (QWi D 8 ad (cellR cI ad) out.1 out.2) args s 0 0 (AW 8 ad)) 6 D 8 ad (cellR cI ad) v 105 [(0, .ref (ad 0)), (1, .int y1), (2, .int x2)] []) : ∀ (n : Nat) (x1 : Int32) (x3 : Int32) (w : Wd), m_X8_reaches_L11 x2 kx105 n x1 x3 w = some out → WJ p l e rmX8_reaches s m args below meth c (MQ below (QWi D 8 ad (cellR cI ad) out.1 out.2) args s 0 0 (AW 8 ad)) 6 D 8 ad (cellR cI ad) w 11 [(0, .ref (ad 0)), (1, .int x1), (2, .int x2), (3, .int x3)] [] := by
  intro n
  induction n with
  | zero => intro x1 x3 w hf; exact f_n hf
  | succ n ih =>
    intro x1 x3 w hf
    rw [m_X8_reaches_L11] at hf
    refine j_iload_n X 3 dX8_reaches_11 rfl rfl ?_
    refine j_aload_n X 0 dX8_reaches_12 rfl rfl ?_
    refine j_get (ref := "ProxyVersionsModel") (index := 28) (v := .ref (ad 7)) X oMo inX8_reaches_X8 rfl 9 (by decide) (List.mem_of_getElem? (i := 1) rfl) rfl rfl dX8_reaches_13 ?_
    refine j_iload_n X 2 dX8_reaches_16 rfl rfl ?_
    obtain ⟨hi1, hf⟩ := f_c hf
    refine j_iald X 0 rfl r7 hi1 dX8_reaches_17 ?_
    refine j_icmp_gt (tgt := 105) X dX8_reaches_18 (by decide) (fun c => ?_) (fun c => ?_)
    · replace hf := f_t c hf
      refine j_sub [0, 1, 2] rfl ?_
      exact hk_kx105 _ _ hf
    replace hf := f_f c hf
    refine j_iconst X (v := (nI 0)) (by decide) dX8_reaches_21 ?_
    refine j_istore (lv' := [(0, .ref (ad 0)), (1, .int x1), (2, .int x2), (3, .int x3), (4, .int (nI 0))]) X dX8_reaches_22 (by decide) rfl ?_
    refine t_X8_reaches_L24 X Y ?_ _ _ _ _ hf
    intro x1_2 w3 hf
    refine j_iinc (v := (x3 + (nI 1))) (lv' := [(0, .ref (ad 0)), (1, .int x1_2), (2, .int x2), (3, .int (x3 + (nI 1)))]) X 3 dX8_reaches_99 rfl rfl (by decide) rfl ?_
    refine j_goto (tgt := 11) X dX8_reaches_102 (by decide) ?_
    exact ih _ _ _ hf
set_option maxRecDepth 100000 in
set_option maxHeartbeats 4000000 in
theorem t_X8_reaches_L4 (X : CX p rmX8_reaches s m args c cX8_reaches 6 RX8 wsX8_reaches D (tR cI) 8 ad) (Y : RX meth (some .boolean)) {out : Int32 × Wd} : ∀ (n : Nat) (x1 : Int32) (x2 : Int32) (w : Wd), m_X8_reaches_L4 n x1 x2 w = some out → WJ p l e rmX8_reaches s m args below meth c (MQ below (QWi D 8 ad (cellR cI ad) out.1 out.2) args s 0 0 (AW 8 ad)) 6 D 8 ad (cellR cI ad) w 4 [(0, .ref (ad 0)), (1, .int x1), (2, .int x2)] [] := by
  intro n
  induction n with
  | zero => intro x1 x2 w hf; exact f_n hf
  | succ n ih =>
    intro x1 x2 w hf
    rw [m_X8_reaches_L4] at hf
    refine j_iload_n X 2 dX8_reaches_4 rfl rfl ?_
    refine j_iconst X (v := (nI 4)) (by decide) dX8_reaches_5 ?_
    refine j_icmp_ge (tgt := 111) X dX8_reaches_6 (by decide) (fun c => ?_) (fun c => ?_)
    · replace hf := f_t c hf
      refine j_iload_n X 1 dX8_reaches_111 rfl rfl ?_
      exact j_bret X Y (f_p1 hf) (f_p2 hf) dX8_reaches_112
    replace hf := f_f c hf
    refine j_iconst X (v := (nI 1)) (by decide) dX8_reaches_9 ?_
    refine j_istore_n (lv' := [(0, .ref (ad 0)), (1, .int x1), (2, .int x2), (3, .int (nI 1))]) X dX8_reaches_10 rfl (by decide) rfl ?_
    refine t_X8_reaches_L11 X Y ?_ _ _ _ _ hf
    intro x1_1 w2 hf
    refine j_iinc (v := (x2 + (nI 1))) (lv' := [(0, .ref (ad 0)), (1, .int x1_1), (2, .int (x2 + (nI 1)))]) X 2 dX8_reaches_105 rfl rfl (by decide) rfl ?_
    refine j_goto (tgt := 4) X dX8_reaches_108 (by decide) ?_
    exact ih _ _ _ hf
set_option maxRecDepth 100000 in
set_option maxHeartbeats 4000000 in
theorem c_X8_reaches (hI : Inj 8 ad) {w : Wd} {out : Int32 × Wd} (hf : m_X8_reaches w = some out) : Met l yX8_reaches wsX8_reaches rmX8_reaches (va_Pc [.ref (ad 0)] (PW D (tR cI) 8 ad (cellR cI ad) w)) (QWi D 8 ad (cellR cI ad) out.1 out.2) 0 0 (AW 8 ad) := by
  refine mk_met (maxL := 6) (ret := (some .boolean)) RX8 hI (by decide) rfl rfl (Nat.le_of_ble_eq_true rfl) rfl rfl (fun p e s m args below meth c X Y => ?_)
  unfold m_X8_reaches at hf
  refine j_iconst X (v := (nI 0)) (by decide) dX8_reaches_0 ?_
  refine j_istore_n (lv' := [(0, .ref (ad 0)), (1, .int (nI 0))]) X dX8_reaches_1 rfl (by decide) rfl ?_
  refine j_iconst X (v := (nI 0)) (by decide) dX8_reaches_2 ?_
  refine j_istore_n (lv' := [(0, .ref (ad 0)), (1, .int (nI 0)), (2, .int (nI 0))]) X dX8_reaches_3 rfl (by decide) rfl ?_
  refine t_X8_reaches_L4 X Y _ _ _ _ hf
abbrev rmX8_missing : Room := { frames := 3, cells := 0, slots := 0, locals := 64 }
theorem inX8_missing_X8 : ∀ w ∈ wsX80, w ∈ wsX8_missing := fun _ h => List.mem_cons_of_mem _ (List.mem_append_right _ h)
set_option maxRecDepth 100000 in
set_option maxHeartbeats 4000000 in
theorem t_X8_missing_j45 (X : CX p rmX8_missing s m args c cX8_missing 8 RX8 wsX8_missing D (tR cI) 8 ad) (Y : RX meth (some .int)) {x1 : Int32} {x2 : Int32} {x3 : Int32} {x4 : Int32} {s1 : Int32} {s2 : Int32} {w : Wd} {kc : Int32 → Wd → Option (Int32 × Wd)} {kx52 : Wd → Option (Int32 × Wd)} {out : Int32 × Wd} (hf : m_X8_missing_j45 x1 x2 x3 x4 s1 s2 w kc kx52 = some out) (hk_kc : ∀ (y4 : Int32) (v : Wd), kc y4 v = some out → WJ p l e rmX8_missing s m args below meth c (MQ below (QWi D 8 ad (cellR cI ad) out.1 out.2) args s 0 0 (AW 8 ad)) 8 D 8 ad (cellR cI ad) v 22 [(0, .ref (ad 0)), (1, .int x1), (2, .int x2), (3, .int x3), (4, .int y4)] []) (hk_kx52 : ∀  (v : Wd), kx52 v = some out → WJ p l e rmX8_missing s m args below meth c (MQ below (QWi D 8 ad (cellR cI ad) out.1 out.2) args s 0 0 (AW 8 ad)) 8 D 8 ad (cellR cI ad) v 52 [(0, .ref (ad 0)), (1, .int x1)] []) : WJ p l e rmX8_missing s m args below meth c (MQ below (QWi D 8 ad (cellR cI ad) out.1 out.2) args s 0 0 (AW 8 ad)) 8 D 8 ad (cellR cI ad) w 45 [(0, .ref (ad 0)), (1, .int x1), (2, .int x2), (3, .int x3), (4, .int x4)] [.int s2, .int s1, .ref (ad 7)] := by
  unfold m_X8_missing_j45 at hf
  obtain ⟨hi1, hf⟩ := f_c hf
  obtain ⟨w2, ew2, hf⟩ := f_lt hf
  refine j_iast X 0 rfl r7 hi1 dX8_missing_45 ew2 ?_
  refine j_iinc (v := (x4 + (nI 1))) (lv' := [(0, .ref (ad 0)), (1, .int x1), (2, .int x2), (3, .int x3), (4, .int (x4 + (nI 1)))]) X 4 dX8_missing_46 rfl rfl (by decide) rfl ?_
  refine j_goto (tgt := 22) X dX8_missing_49 (by decide) ?_
  exact hk_kc _ _ hf
set_option maxRecDepth 100000 in
set_option maxHeartbeats 4000000 in
theorem t_X8_missing_L22 (X : CX p rmX8_missing s m args c cX8_missing 8 RX8 wsX8_missing D (tR cI) 8 ad) (Y : RX meth (some .int)) {x1 : Int32} {x2 : Int32} {x3 : Int32} {kx52 : Wd → Option (Int32 × Wd)} {out : Int32 × Wd} (hk_kx52 : ∀  (v : Wd), kx52 v = some out → WJ p l e rmX8_missing s m args below meth c (MQ below (QWi D 8 ad (cellR cI ad) out.1 out.2) args s 0 0 (AW 8 ad)) 8 D 8 ad (cellR cI ad) v 52 [(0, .ref (ad 0)), (1, .int x1)] []) : ∀ (n : Nat) (x4 : Int32) (w : Wd), m_X8_missing_L22 x1 x2 x3 kx52 n x4 w = some out → WJ p l e rmX8_missing s m args below meth c (MQ below (QWi D 8 ad (cellR cI ad) out.1 out.2) args s 0 0 (AW 8 ad)) 8 D 8 ad (cellR cI ad) w 22 [(0, .ref (ad 0)), (1, .int x1), (2, .int x2), (3, .int x3), (4, .int x4)] [] := by
  intro n
  induction n with
  | zero => intro x4 w hf; exact f_n hf
  | succ n ih =>
    intro x4 w hf
    rw [m_X8_missing_L22] at hf
    refine j_iload X 4 dX8_missing_22 rfl ?_
    refine j_iconst X (v := (nI 4)) (by decide) dX8_missing_24 ?_
    refine j_icmp_ge (tgt := 52) X dX8_missing_25 (by decide) (fun c => ?_) (fun c => ?_)
    · replace hf := f_t c hf
      refine j_sub [0, 1] rfl ?_
      exact hk_kx52 _ hf
    replace hf := f_f c hf
    refine j_aload_n X 0 dX8_missing_28 rfl rfl ?_
    refine j_get (ref := "ProxyVersionsModel") (index := 28) (v := .ref (ad 7)) X oMo inX8_missing_X8 rfl 9 (by decide) (List.mem_of_getElem? (i := 1) rfl) rfl rfl dX8_missing_29 ?_
    refine j_iload X 4 dX8_missing_32 rfl ?_
    refine j_iload X 4 dX8_missing_34 rfl ?_
    refine j_iload_n X 2 dX8_missing_36 rfl rfl ?_
    refine j_icmp_ne (tgt := 44) X dX8_missing_37 (by decide) (fun c => ?_) (fun c => ?_)
    · replace hf := f_t c hf
      refine j_iconst X (v := (nI 0)) (by decide) dX8_missing_44 ?_
      exact t_X8_missing_j45 X Y hf ih hk_kx52
    replace hf := f_fn c hf
    refine j_iload_n X 3 dX8_missing_40 rfl rfl ?_
    refine j_goto (tgt := 45) X dX8_missing_41 (by decide) ?_
    exact t_X8_missing_j45 X Y hf ih hk_kx52
set_option maxRecDepth 100000 in
set_option maxHeartbeats 4000000 in
theorem t_X8_missing_L55 (X : CX p rmX8_missing s m args c cX8_missing 8 RX8 wsX8_missing D (tR cI) 8 ad) (Y : RX meth (some .int)) {x1 : Int32} {kx69 : Wd → Option (Int32 × Wd)} {out : Int32 × Wd} (hk_kx69 : ∀  (v : Wd), kx69 v = some out → WJ p l e rmX8_missing s m args below meth c (MQ below (QWi D 8 ad (cellR cI ad) out.1 out.2) args s 0 0 (AW 8 ad)) 8 D 8 ad (cellR cI ad) v 69 [(0, .ref (ad 0)), (1, .int x1)] []) : ∀ (n : Nat) (x4 : Int32) (w : Wd), m_X8_missing_L55 x1 kx69 n x4 w = some out → WJ p l e rmX8_missing s m args below meth c (MQ below (QWi D 8 ad (cellR cI ad) out.1 out.2) args s 0 0 (AW 8 ad)) 8 D 8 ad (cellR cI ad) w 55 [(0, .ref (ad 0)), (1, .int x1), (4, .int x4)] [] := by
  intro n
  induction n with
  | zero => intro x4 w hf; exact f_n hf
  | succ n ih =>
    intro x4 w hf
    rw [m_X8_missing_L55] at hf
    refine j_iload X 2 dX8_missing_55 rfl ?_
    refine j_if_eq (tgt := 69) X dX8_missing_57 (by decide) (fun c => ?_) (fun c => ?_)
    · replace hf := f_t c hf
      refine j_sub [0, 1] rfl ?_
      exact hk_kx69 _ hf
    replace hf := f_f c hf
    refine j_aload_n X 0 dX8_missing_60 rfl rfl ?_
    obtain ⟨o1, ho1, hf⟩ := f_bd hf
    refine j_callVi X oMo rfl rfl [] (c_X8_reaches X.2.2.2.2.2.2.2 ho1) (cwV 0 X.2.2.2.2.1 gX8_missing_X8_reaches rfl rfl rfl (by decide +kernel) ⟨Nat.le_of_ble_eq_true rfl, Nat.le_of_ble_eq_true rfl⟩) rfl rfl (Nat.le_of_ble_eq_true rfl) dX8_missing_61 ?_
    refine j_istore (lv' := [(0, .ref (ad 0)), (1, .int x1), (4, .int o1.1)]) X dX8_missing_64 (by decide) rfl ?_
    refine j_goto (tgt := 55) X dX8_missing_66 (by decide) ?_
    exact ih _ _ hf
set_option maxRecDepth 100000 in
set_option maxHeartbeats 4000000 in
theorem t_X8_missing_j115 (X : CX p rmX8_missing s m args c cX8_missing 8 RX8 wsX8_missing D (tR cI) 8 ad) (Y : RX meth (some .int)) {x1 : Int32} {x6 : Int32} {x7 : Int32} {s0 : Int32} {s1 : Int32} {w : Wd} {kc : Int32 → Int32 → Wd → Option (Int32 × Wd)} {kx124 : Int32 → Wd → Option (Int32 × Wd)} {out : Int32 × Wd} (hf : m_X8_missing_j115 x1 x6 x7 s0 s1 w kc kx124 = some out) (hk_kc : ∀ (y5 : Int32) (y7 : Int32) (v : Wd), kc y5 y7 v = some out → WJ p l e rmX8_missing s m args below meth c (MQ below (QWi D 8 ad (cellR cI ad) out.1 out.2) args s 0 0 (AW 8 ad)) 8 D 8 ad (cellR cI ad) v 84 [(0, .ref (ad 0)), (1, .int x1), (5, .int y5), (6, .int x6), (7, .int y7)] []) (hk_kx124 : ∀ (y5 : Int32) (v : Wd), kx124 y5 v = some out → WJ p l e rmX8_missing s m args below meth c (MQ below (QWi D 8 ad (cellR cI ad) out.1 out.2) args s 0 0 (AW 8 ad)) 8 D 8 ad (cellR cI ad) v 124 [(0, .ref (ad 0)), (1, .int x1), (5, .int y5), (6, .int x6)] []) : WJ p l e rmX8_missing s m args below meth c (MQ below (QWi D 8 ad (cellR cI ad) out.1 out.2) args s 0 0 (AW 8 ad)) 8 D 8 ad (cellR cI ad) w 115 [(0, .ref (ad 0)), (1, .int x1), (6, .int x6), (7, .int x7)] [.int s1, .int s0] := by
  unfold m_X8_missing_j115 at hf
  refine j_iadd X dX8_missing_115 ?_
  obtain ⟨x5_1, ex5_1, hf⟩ := f_lt hf
  refine j_top ex5_1 ?_
  refine j_istore (lv' := [(0, .ref (ad 0)), (1, .int x1), (5, .int x5_1), (6, .int x6), (7, .int x7)]) X dX8_missing_116 (by decide) rfl ?_
  refine j_iinc (v := (x7 + (nI 1))) (lv' := [(0, .ref (ad 0)), (1, .int x1), (5, .int x5_1), (6, .int x6), (7, .int (x7 + (nI 1)))]) X 4 dX8_missing_118 rfl rfl (by decide) rfl ?_
  refine j_goto (tgt := 84) X dX8_missing_121 (by decide) ?_
  exact hk_kc _ _ _ hf
set_option maxRecDepth 100000 in
set_option maxHeartbeats 4000000 in
theorem t_X8_missing_L84 (X : CX p rmX8_missing s m args c cX8_missing 8 RX8 wsX8_missing D (tR cI) 8 ad) (Y : RX meth (some .int)) {x1 : Int32} {x6 : Int32} {kx124 : Int32 → Wd → Option (Int32 × Wd)} {out : Int32 × Wd} (hk_kx124 : ∀ (y5 : Int32) (v : Wd), kx124 y5 v = some out → WJ p l e rmX8_missing s m args below meth c (MQ below (QWi D 8 ad (cellR cI ad) out.1 out.2) args s 0 0 (AW 8 ad)) 8 D 8 ad (cellR cI ad) v 124 [(0, .ref (ad 0)), (1, .int x1), (5, .int y5), (6, .int x6)] []) : ∀ (n : Nat) (x5 : Int32) (x7 : Int32) (w : Wd), m_X8_missing_L84 x1 x6 kx124 n x5 x7 w = some out → WJ p l e rmX8_missing s m args below meth c (MQ below (QWi D 8 ad (cellR cI ad) out.1 out.2) args s 0 0 (AW 8 ad)) 8 D 8 ad (cellR cI ad) w 84 [(0, .ref (ad 0)), (1, .int x1), (5, .int x5), (6, .int x6), (7, .int x7)] [] := by
  intro n
  induction n with
  | zero => intro x5 x7 w hf; exact f_n hf
  | succ n ih =>
    intro x5 x7 w hf
    rw [m_X8_missing_L84] at hf
    refine j_iload X 4 dX8_missing_84 rfl ?_
    refine j_aload_n X 0 dX8_missing_86 rfl rfl ?_
    refine j_get (ref := "ProxyVersionsModel") (index := 28) (v := .ref (ad 7)) X oMo inX8_missing_X8 rfl 9 (by decide) (List.mem_of_getElem? (i := 1) rfl) rfl rfl dX8_missing_87 ?_
    refine j_iload X 3 dX8_missing_90 rfl ?_
    obtain ⟨hi1, hf⟩ := f_c hf
    refine j_iald X 0 rfl r7 hi1 dX8_missing_92 ?_
    refine j_icmp_gt (tgt := 124) X dX8_missing_93 (by decide) (fun c => ?_) (fun c => ?_)
    · replace hf := f_t c hf
      refine j_sub [0, 1, 2, 3] rfl ?_
      exact hk_kx124 _ _ hf
    replace hf := f_f c hf
    refine j_iload X 2 dX8_missing_96 rfl ?_
    refine j_aload_n X 0 dX8_missing_98 rfl rfl ?_
    refine j_iload_n X 1 dX8_missing_99 rfl rfl ?_
    refine j_iload X 3 dX8_missing_100 rfl ?_
    refine j_iload X 4 dX8_missing_102 rfl ?_
    obtain ⟨o2, ho2, hf⟩ := f_bd hf
    refine j_callVi X oMo rfl rfl [.int x1, .int x6, .int x7] (c_X8_knows X.2.2.2.2.2.2.2 ho2) (cwV 3 X.2.2.2.2.1 gX8_missing_X8_knows rfl rfl rfl (by decide +kernel) ⟨Nat.le_of_ble_eq_true rfl, Nat.le_of_ble_eq_true rfl⟩) rfl rfl (Nat.le_of_ble_eq_true rfl) dX8_missing_104 ?_
    refine j_if_eq (tgt := 114) X dX8_missing_107 (by decide) (fun c => ?_) (fun c => ?_)
    · replace hf := f_t c hf
      refine j_iconst X (v := (nI 1)) (by decide) dX8_missing_114 ?_
      refine j_sub [0, 1, 3, 4] rfl ?_
      exact t_X8_missing_j115 X Y hf ih hk_kx124
    replace hf := f_f c hf
    refine j_iconst X (v := (nI 0)) (by decide) dX8_missing_110 ?_
    refine j_goto (tgt := 115) X dX8_missing_111 (by decide) ?_
    refine j_sub [0, 1, 3, 4] rfl ?_
    exact t_X8_missing_j115 X Y hf ih hk_kx124
set_option maxRecDepth 100000 in
set_option maxHeartbeats 4000000 in
theorem t_X8_missing_L75 (X : CX p rmX8_missing s m args c cX8_missing 8 RX8 wsX8_missing D (tR cI) 8 ad) (Y : RX meth (some .int)) {x1 : Int32} {out : Int32 × Wd} : ∀ (n : Nat) (x5 : Int32) (x6 : Int32) (w : Wd), m_X8_missing_L75 x1 n x5 x6 w = some out → WJ p l e rmX8_missing s m args below meth c (MQ below (QWi D 8 ad (cellR cI ad) out.1 out.2) args s 0 0 (AW 8 ad)) 8 D 8 ad (cellR cI ad) w 75 [(0, .ref (ad 0)), (1, .int x1), (5, .int x5), (6, .int x6)] [] := by
  intro n
  induction n with
  | zero => intro x5 x6 w hf; exact f_n hf
  | succ n ih =>
    intro x5 x6 w hf
    rw [m_X8_missing_L75] at hf
    refine j_iload X 3 dX8_missing_75 rfl ?_
    refine j_iconst X (v := (nI 4)) (by decide) dX8_missing_77 ?_
    refine j_icmp_ge (tgt := 130) X dX8_missing_78 (by decide) (fun c => ?_) (fun c => ?_)
    · replace hf := f_t c hf
      refine j_iload X 2 dX8_missing_130 rfl ?_
      exact j_iret X Y (f_p1 hf) (f_p2 hf) dX8_missing_132
    replace hf := f_f c hf
    refine j_iconst X (v := (nI 1)) (by decide) dX8_missing_81 ?_
    refine j_istore (lv' := [(0, .ref (ad 0)), (1, .int x1), (5, .int x5), (6, .int x6), (7, .int (nI 1))]) X dX8_missing_82 (by decide) rfl ?_
    refine t_X8_missing_L84 X Y ?_ _ _ _ _ hf
    intro x5_1 w2 hf
    refine j_iinc (v := (x6 + (nI 1))) (lv' := [(0, .ref (ad 0)), (1, .int x1), (5, .int x5_1), (6, .int (x6 + (nI 1)))]) X 3 dX8_missing_124 rfl rfl (by decide) rfl ?_
    refine j_goto (tgt := 75) X dX8_missing_127 (by decide) ?_
    exact ih _ _ _ hf
set_option maxRecDepth 100000 in
set_option maxHeartbeats 4000000 in
theorem c_X8_missing (hI : Inj 8 ad) {x1 : Int32} {x2 : Int32} {x3 : Int32} {w : Wd} {out : Int32 × Wd} (hf : m_X8_missing x1 x2 x3 w = some out) : Met l yX8_missing wsX8_missing rmX8_missing (va_Pc [.ref (ad 0), .int x1, .int x2, .int x3] (PW D (tR cI) 8 ad (cellR cI ad) w)) (QWi D 8 ad (cellR cI ad) out.1 out.2) 0 0 (AW 8 ad) := by
  refine mk_met (maxL := 8) (ret := (some .int)) RX8 hI (by decide) rfl rfl (Nat.le_of_ble_eq_true rfl) rfl rfl (fun p e s m args below meth c X Y => ?_)
  unfold m_X8_missing at hf
  refine j_aload_n X 0 dX8_missing_0 rfl rfl ?_
  refine j_iload_n X 1 dX8_missing_1 rfl rfl ?_
  obtain ⟨o1, ho1, hf⟩ := f_bd hf
  refine j_callVi X oMo rfl rfl [.int x1] (c_X8_isProxy X.2.2.2.2.2.2.2 ho1) (cwV 1 X.2.2.2.2.1 gX8_missing_X8_isProxy rfl rfl rfl (by decide +kernel) ⟨Nat.le_of_ble_eq_true rfl, Nat.le_of_ble_eq_true rfl⟩) rfl rfl (Nat.le_of_ble_eq_true rfl) dX8_missing_2 ?_
  refine j_if_eq (tgt := 17) X dX8_missing_5 (by decide) (fun c => ?_) (fun c => ?_)
  · replace hf := f_t c hf
    refine j_iconst X (v := (-1 : Int32)) (by decide) dX8_missing_17 ?_
    exact j_iret X Y (f_p1 hf) (f_p2 hf) dX8_missing_18
  replace hf := f_f c hf
  refine j_aload_n X 0 dX8_missing_8 rfl rfl ?_
  refine j_iload_n X 2 dX8_missing_9 rfl rfl ?_
  refine j_iload_n X 3 dX8_missing_10 rfl rfl ?_
  obtain ⟨o2, ho2, hf⟩ := f_bd hf
  refine j_callVi X oMo rfl rfl [.int x2, .int x3] (c_X8_isUpdate X.2.2.2.2.2.2.2 ho2) (cwV 2 X.2.2.2.2.1 gX8_missing_X8_isUpdate rfl rfl rfl (by decide +kernel) ⟨Nat.le_of_ble_eq_true rfl, Nat.le_of_ble_eq_true rfl⟩) rfl rfl (Nat.le_of_ble_eq_true rfl) dX8_missing_11 ?_
  refine j_if_ne (tgt := 19) X dX8_missing_14 (by decide) (fun c => ?_) (fun c => ?_)
  · replace hf := f_t c hf
    refine j_iconst X (v := (nI 0)) (by decide) dX8_missing_19 ?_
    refine j_istore (lv' := [(0, .ref (ad 0)), (1, .int x1), (2, .int x2), (3, .int x3), (4, .int (nI 0))]) X dX8_missing_20 (by decide) rfl ?_
    refine t_X8_missing_L22 X Y ?_ _ _ _ hf
    intro w3 hf
    refine j_iconst X (v := (nI 1)) (by decide) dX8_missing_52 ?_
    refine j_istore (lv' := [(0, .ref (ad 0)), (1, .int x1), (4, .int (nI 1))]) X dX8_missing_53 (by decide) rfl ?_
    refine t_X8_missing_L55 X Y ?_ _ _ _ hf
    intro w4 hf
    refine j_iconst X (v := (nI 0)) (by decide) dX8_missing_69 ?_
    refine j_istore (lv' := [(0, .ref (ad 0)), (1, .int x1), (5, .int (nI 0))]) X dX8_missing_70 (by decide) rfl ?_
    refine j_iconst X (v := (nI 0)) (by decide) dX8_missing_72 ?_
    refine j_istore (lv' := [(0, .ref (ad 0)), (1, .int x1), (5, .int (nI 0)), (6, .int (nI 0))]) X dX8_missing_73 (by decide) rfl ?_
    refine t_X8_missing_L75 X Y _ _ _ _ hf
  replace hf := f_fn c hf
  refine j_iconst X (v := (-1 : Int32)) (by decide) dX8_missing_17 ?_
  exact j_iret X Y (f_p1 hf) (f_p2 hf) dX8_missing_18
abbrev rmX8_kept : Room := { frames := 2, cells := 0, slots := 0, locals := 43 }
theorem inX8_kept_X8 : ∀ w ∈ wsX80, w ∈ wsX8_kept := fun _ h => List.mem_cons_of_mem _ (List.mem_append_right _ h)
set_option maxRecDepth 100000 in
set_option maxHeartbeats 4000000 in
theorem c_X8_kept (hI : Inj 8 ad) {x1 : Int32} {x2 : Int32} {w : Wd} {out : Int32} (hf : m_X8_kept x1 x2 w = some out) : Met l yX8_kept wsX8_kept rmX8_kept (va_Pc [.ref (ad 0), .int x1, .int x2] (PW D (tR cI) 8 ad (cellR cI ad) w)) (QWi D 8 ad (cellR cI ad) out w) 0 0 (AW 8 ad) := by
  refine mk_met (maxL := 3) (ret := (some .int)) RX8 hI (by decide) rfl rfl (Nat.le_of_ble_eq_true rfl) rfl rfl (fun p e s m args below meth c X Y => ?_)
  unfold m_X8_kept at hf
  refine j_aload_n X 0 dX8_kept_0 rfl rfl ?_
  refine j_iload_n X 1 dX8_kept_1 rfl rfl ?_
  obtain ⟨o1, ho1, hf⟩ := f_bd hf
  refine j_callVi X oMo rfl rfl [.int x1] (c_X8_isProxy X.2.2.2.2.2.2.2 ho1) (cwV 1 X.2.2.2.2.1 gX8_kept_X8_isProxy rfl rfl rfl (by decide +kernel) ⟨Nat.le_of_ble_eq_true rfl, Nat.le_of_ble_eq_true rfl⟩) rfl rfl (Nat.le_of_ble_eq_true rfl) dX8_kept_2 ?_
  refine j_if_eq (tgt := 12) X dX8_kept_5 (by decide) (fun c => ?_) (fun c => ?_)
  · replace hf := f_t c hf
    refine j_iconst X (v := (-1 : Int32)) (by decide) dX8_kept_12 ?_
    exact j_iret X Y (f_s hf) rfl dX8_kept_13
  replace hf := f_f c hf
  refine j_iload_n X 2 dX8_kept_8 rfl rfl ?_
  refine j_if_ge (tgt := 14) X dX8_kept_9 (by decide) (fun c => ?_) (fun c => ?_)
  · replace hf := f_t c hf
    refine j_iload_n X 2 dX8_kept_14 rfl rfl ?_
    refine j_aload_n X 0 dX8_kept_15 rfl rfl ?_
    refine j_get (ref := "ProxyVersionsModel") (index := 7) (v := .ref (ad 1)) X oMo inX8_kept_X8 rfl 0 (by decide) (List.mem_of_getElem? (i := 1) rfl) rfl rfl dX8_kept_16 ?_
    refine j_sipush X (v := (nI 439)) (by decide) dX8_kept_19 ?_
    refine j_iload_n X 1 dX8_kept_22 rfl rfl ?_
    refine j_iadd X dX8_kept_23 ?_
    obtain ⟨hi2, hf⟩ := f_c hf
    refine j_iald X 0 rfl r1 hi2 dX8_kept_24 ?_
    refine j_icmp_ge (tgt := 46) X dX8_kept_25 (by decide) (fun c => ?_) (fun c => ?_)
    · replace hf := f_t c hf
      refine j_bipush X (v := (-9 : Int32)) (by decide) dX8_kept_46 ?_
      exact j_iret X Y (f_s hf) rfl dX8_kept_48
    replace hf := f_f c hf
    refine j_aload_n X 0 dX8_kept_28 rfl rfl ?_
    refine j_get (ref := "ProxyVersionsModel") (index := 7) (v := .ref (ad 1)) X oMo inX8_kept_X8 rfl 0 (by decide) (List.mem_of_getElem? (i := 1) rfl) rfl rfl dX8_kept_29 ?_
    refine j_sipush X (v := (nI 447)) (by decide) dX8_kept_32 ?_
    refine j_bipush X (v := (nI 96)) (by decide) dX8_kept_35 ?_
    refine j_iload_n X 1 dX8_kept_37 rfl rfl ?_
    refine j_imul X dX8_kept_38 ?_
    refine j_iadd X dX8_kept_39 ?_
    refine j_iload_n X 2 dX8_kept_40 rfl rfl ?_
    refine j_iadd X dX8_kept_41 ?_
    obtain ⟨hi3, hf⟩ := f_c hf
    refine j_iald X 0 rfl r1 hi3 dX8_kept_42 ?_
    refine j_goto (tgt := 48) X dX8_kept_43 (by decide) ?_
    exact j_iret X Y (f_s hf) rfl dX8_kept_48
  replace hf := f_f c hf
  refine j_iconst X (v := (-1 : Int32)) (by decide) dX8_kept_12 ?_
  exact j_iret X Y (f_s hf) rfl dX8_kept_13
abbrev rmX8_read : Room := { frames := 4, cells := 0, slots := 0, locals := 96 }
theorem inX8_read_X8 : ∀ w ∈ wsX80, w ∈ wsX8_read := fun _ h => List.mem_cons_of_mem _ (List.mem_append_right _ h)
set_option maxRecDepth 100000 in
set_option maxHeartbeats 4000000 in
theorem t_X8_read_L51 (X : CX p rmX8_read s m args c cX8_read 7 RX8 wsX8_read D (tR cI) 8 ad) (Y : RX meth (some .int)) {x1 : Int32} {x4 : Int32} {kx85 : Int32 → Int32 → Wd → Option (Int32 × Wd)} {out : Int32 × Wd} (hk_kx85 : ∀ (y5 : Int32) (y6 : Int32) (v : Wd), kx85 y5 y6 v = some out → WJ p l e rmX8_read s m args below meth c (MQ below (QWi D 8 ad (cellR cI ad) out.1 out.2) args s 0 0 (AW 8 ad)) 7 D 8 ad (cellR cI ad) v 85 [(0, .ref (ad 0)), (1, .int x1), (4, .int x4), (5, .int y5), (6, .int y6)] []) : ∀ (n : Nat) (x5 : Int32) (x6 : Int32) (w : Wd), m_X8_read_L51 x1 x4 kx85 n x5 x6 w = some out → WJ p l e rmX8_read s m args below meth c (MQ below (QWi D 8 ad (cellR cI ad) out.1 out.2) args s 0 0 (AW 8 ad)) 7 D 8 ad (cellR cI ad) w 51 [(0, .ref (ad 0)), (1, .int x1), (4, .int x4), (5, .int x5), (6, .int x6)] [] := by
  intro n
  induction n with
  | zero => intro x5 x6 w hf; exact f_n hf
  | succ n ih =>
    intro x5 x6 w hf
    rw [m_X8_read_L51] at hf
    refine j_iload X 4 dX8_read_51 rfl ?_
    refine j_if_le (tgt := 85) X dX8_read_53 (by decide) (fun c => ?_) (fun c => ?_)
    · replace hf := f_t c hf
      exact hk_kx85 _ _ _ hf
    replace hf := f_f c hf
    refine j_aload_n X 0 dX8_read_56 rfl rfl ?_
    refine j_iload X 4 dX8_read_57 rfl ?_
    refine j_iload X 2 dX8_read_59 rfl ?_
    obtain ⟨o1, ho1, hf⟩ := f_bd hf
    refine j_callVi X oMo rfl rfl [.int x6, .int x4] (c_X8_keptPlace X.2.2.2.2.2.2.2 ho1) (cwV 2 X.2.2.2.2.1 gX8_read_X8_keptPlace rfl rfl rfl (by decide +kernel) ⟨Nat.le_of_ble_eq_true rfl, Nat.le_of_ble_eq_true rfl⟩) rfl rfl (Nat.le_of_ble_eq_true rfl) dX8_read_61 ?_
    refine j_if_ge (tgt := 85) X dX8_read_64 (by decide) (fun c => ?_) (fun c => ?_)
    · replace hf := f_t c hf
      exact hk_kx85 _ _ _ hf
    replace hf := f_f c hf
    refine j_aload_n X 0 dX8_read_67 rfl rfl ?_
    refine j_get (ref := "ProxyVersionsModel") (index := 7) (v := .ref (ad 1)) X oMo inX8_read_X8 rfl 0 (by decide) (List.mem_of_getElem? (i := 2) rfl) rfl rfl dX8_read_68 ?_
    refine j_bipush X (v := (nI 7)) (by decide) dX8_read_71 ?_
    refine j_iload X 4 dX8_read_73 rfl ?_
    refine j_iadd X dX8_read_75 ?_
    obtain ⟨hi2, hf⟩ := f_c hf
    refine j_iald X 0 rfl r1 hi2 dX8_read_76 ?_
    obtain ⟨x6_3, ex6_3, hf⟩ := f_lt hf
    refine j_top ex6_3 ?_
    refine j_istore (lv' := [(0, .ref (ad 0)), (1, .int x1), (4, .int x4), (5, .int x5), (6, .int x6_3)]) X dX8_read_77 (by decide) rfl ?_
    refine j_iinc (v := (x5 + (nI 1))) (lv' := [(0, .ref (ad 0)), (1, .int x1), (4, .int x4), (5, .int (x5 + (nI 1))), (6, .int x6_3)]) X 3 dX8_read_79 rfl rfl (by decide) rfl ?_
    refine j_goto (tgt := 51) X dX8_read_82 (by decide) ?_
    exact ih _ _ _ hf
set_option maxRecDepth 100000 in
set_option maxHeartbeats 4000000 in
theorem t_X8_read_j115 (X : CX p rmX8_read s m args c cX8_read 7 RX8 wsX8_read D (tR cI) 8 ad) (Y : RX meth (some .int)) {x5 : Int32} {w : Wd} {out : Int32 × Wd} (hf : m_X8_read_j115 x5 w = some out) : WJ p l e rmX8_read s m args below meth c (MQ below (QWi D 8 ad (cellR cI ad) out.1 out.2) args s 0 0 (AW 8 ad)) 7 D 8 ad (cellR cI ad) w 115 [(0, .ref (ad 0)), (5, .int x5)] [] := by
  unfold m_X8_read_j115 at hf
  refine j_aload_n X 0 dX8_read_115 rfl rfl ?_
  refine j_iload X 1 dX8_read_116 rfl ?_
  obtain ⟨o1, ho1, hf⟩ := f_bd hf
  refine j_callVi X oMo rfl rfl [.int x5] (c_X8_ends X.2.2.2.2.2.2.2 ho1) (cwV 1 X.2.2.2.2.1 gX8_read_X8_ends rfl rfl rfl (by decide +kernel) ⟨Nat.le_of_ble_eq_true rfl, Nat.le_of_ble_eq_true rfl⟩) rfl rfl (Nat.le_of_ble_eq_true rfl) dX8_read_118 ?_
  exact j_iret X Y (f_p1 hf) (f_p2 hf) dX8_read_121
set_option maxRecDepth 100000 in
set_option maxHeartbeats 4000000 in
theorem t_X8_read_j85 (X : CX p rmX8_read s m args c cX8_read 7 RX8 wsX8_read D (tR cI) 8 ad) (Y : RX meth (some .int)) {x1 : Int32} {x4 : Int32} {x5 : Int32} {x6 : Int32} {w : Wd} {out : Int32 × Wd} (hf : m_X8_read_j85 x1 x4 x5 x6 w = some out) : WJ p l e rmX8_read s m args below meth c (MQ below (QWi D 8 ad (cellR cI ad) out.1 out.2) args s 0 0 (AW 8 ad)) 7 D 8 ad (cellR cI ad) w 85 [(0, .ref (ad 0)), (1, .int x1), (4, .int x4), (5, .int x5), (6, .int x6)] [] := by
  unfold m_X8_read_j85 at hf
  refine j_aload_n X 0 dX8_read_85 rfl rfl ?_
  refine j_iload X 4 dX8_read_86 rfl ?_
  refine j_iload X 2 dX8_read_88 rfl ?_
  obtain ⟨o1, ho1, hf⟩ := f_bd hf
  refine j_callVi X oMo rfl rfl [.int x6, .int x4] (c_X8_keptPlace X.2.2.2.2.2.2.2 ho1) (cwV 2 X.2.2.2.2.1 gX8_read_X8_keptPlace rfl rfl rfl (by decide +kernel) ⟨Nat.le_of_ble_eq_true rfl, Nat.le_of_ble_eq_true rfl⟩) rfl rfl (Nat.le_of_ble_eq_true rfl) dX8_read_90 ?_
  refine j_if_ge (tgt := 99) X dX8_read_93 (by decide) (fun c => ?_) (fun c => ?_)
  · replace hf := f_t c hf
    refine j_aload_n X 0 dX8_read_99 rfl rfl ?_
    obtain ⟨o2, ho2, hf⟩ := f_bd hf
    refine j_callVv X oMo rfl rfl [] (c_X8_hold X.2.2.2.2.2.2.2 ho2) (cwV 0 X.2.2.2.2.1 gX8_read_X8_hold rfl rfl rfl (by decide +kernel) ⟨Nat.le_of_ble_eq_true rfl, Nat.le_of_ble_eq_true rfl⟩) rfl rfl (Nat.le_of_ble_eq_true rfl) dX8_read_100 ?_
    refine j_iload X 3 dX8_read_103 rfl ?_
    refine j_if_le (tgt := 115) X dX8_read_105 (by decide) (fun c => ?_) (fun c => ?_)
    · replace hf := f_t c hf
      refine j_sub [0, 3] rfl ?_
      exact t_X8_read_j115 X Y hf
    replace hf := f_f c hf
    refine j_aload_n X 0 dX8_read_108 rfl rfl ?_
    refine j_iload_n X 1 dX8_read_109 rfl rfl ?_
    refine j_iload X 2 dX8_read_110 rfl ?_
    obtain ⟨o3, ho3, hf⟩ := f_bd hf
    refine j_callVv X oMo rfl rfl [.int x1, .int x4] (c_X8_keeps X.2.2.2.2.2.2.2 ho3) (cwV 2 X.2.2.2.2.1 gX8_read_X8_keeps rfl rfl rfl (by decide +kernel) ⟨Nat.le_of_ble_eq_true rfl, Nat.le_of_ble_eq_true rfl⟩) rfl rfl (Nat.le_of_ble_eq_true rfl) dX8_read_112 ?_
    refine j_sub [0, 3] rfl ?_
    exact t_X8_read_j115 X Y hf
  replace hf := f_f c hf
  refine j_bipush X (v := (-9 : Int32)) (by decide) dX8_read_96 ?_
  exact j_iret X Y (f_p1 hf) (f_p2 hf) dX8_read_98
set_option maxRecDepth 100000 in
set_option maxHeartbeats 4000000 in
theorem c_X8_read (hI : Inj 8 ad) {x1 : Int32} {x2 : Int32} {x3 : Int32} {w : Wd} {out : Int32 × Wd} (hf : m_X8_read x1 x2 x3 w = some out) : Met l yX8_read wsX8_read rmX8_read (va_Pc [.ref (ad 0), .int x1, .int x2, .int x3] (PW D (tR cI) 8 ad (cellR cI ad) w)) (QWi D 8 ad (cellR cI ad) out.1 out.2) 0 0 (AW 8 ad) := by
  refine mk_met (maxL := 7) (ret := (some .int)) RX8 hI (by decide) rfl rfl (Nat.le_of_ble_eq_true rfl) rfl rfl (fun p e s m args below meth c X Y => ?_)
  unfold m_X8_read at hf
  refine j_aload_n X 0 dX8_read_0 rfl rfl ?_
  refine j_iload_n X 1 dX8_read_1 rfl rfl ?_
  obtain ⟨o1, ho1, hf⟩ := f_bd hf
  refine j_callVi X oMo rfl rfl [.int x1] (c_X8_isProxy X.2.2.2.2.2.2.2 ho1) (cwV 1 X.2.2.2.2.1 gX8_read_X8_isProxy rfl rfl rfl (by decide +kernel) ⟨Nat.le_of_ble_eq_true rfl, Nat.le_of_ble_eq_true rfl⟩) rfl rfl (Nat.le_of_ble_eq_true rfl) dX8_read_2 ?_
  refine j_if_eq (tgt := 17) X dX8_read_5 (by decide) (fun c => ?_) (fun c => ?_)
  · replace hf := f_t c hf
    refine j_iconst X (v := (-1 : Int32)) (by decide) dX8_read_17 ?_
    exact j_iret X Y (f_p1 hf) (f_p2 hf) dX8_read_18
  replace hf := f_f c hf
  refine j_aload_n X 0 dX8_read_8 rfl rfl ?_
  refine j_iload_n X 2 dX8_read_9 rfl rfl ?_
  refine j_iload_n X 3 dX8_read_10 rfl rfl ?_
  obtain ⟨o2, ho2, hf⟩ := f_bd hf
  refine j_callVi X oMo rfl rfl [.int x2, .int x3] (c_X8_isUpdate X.2.2.2.2.2.2.2 ho2) (cwV 2 X.2.2.2.2.1 gX8_read_X8_isUpdate rfl rfl rfl (by decide +kernel) ⟨Nat.le_of_ble_eq_true rfl, Nat.le_of_ble_eq_true rfl⟩) rfl rfl (Nat.le_of_ble_eq_true rfl) dX8_read_11 ?_
  refine j_if_ne (tgt := 19) X dX8_read_14 (by decide) (fun c => ?_) (fun c => ?_)
  · replace hf := f_t c hf
    refine j_aload_n X 0 dX8_read_19 rfl rfl ?_
    refine j_iload_n X 1 dX8_read_20 rfl rfl ?_
    obtain ⟨o3, ho3, hf⟩ := f_bd hf
    refine j_callVv X oMo rfl rfl [.int x1] (c_X8_serves X.2.2.2.2.2.2.2 ho3) (cwV 1 X.2.2.2.2.1 gX8_read_X8_serves rfl rfl rfl (by decide +kernel) ⟨Nat.le_of_ble_eq_true rfl, Nat.le_of_ble_eq_true rfl⟩) rfl rfl (Nat.le_of_ble_eq_true rfl) dX8_read_21 ?_
    refine j_iload_n X 3 dX8_read_24 rfl rfl ?_
    refine j_aload_n X 0 dX8_read_25 rfl rfl ?_
    refine j_get (ref := "ProxyVersionsModel") (index := 22) (v := .ref (ad 5)) X oMo inX8_read_X8 rfl 6 (by decide) (List.mem_of_getElem? (i := 1) rfl) rfl rfl dX8_read_26 ?_
    refine j_iload_n X 2 dX8_read_29 rfl rfl ?_
    obtain ⟨hi4, hf⟩ := f_c hf
    refine j_iald X 0 rfl r5 hi4 dX8_read_30 ?_
    refine j_icmp_le (tgt := 37) X dX8_read_31 (by decide) (fun c => ?_) (fun c => ?_)
    · replace hf := f_t c hf
      refine j_bipush X (v := (nI 100)) (by decide) dX8_read_37 ?_
      refine j_iload_n X 2 dX8_read_39 rfl rfl ?_
      refine j_imul X dX8_read_40 ?_
      refine j_iload_n X 3 dX8_read_41 rfl rfl ?_
      refine j_iadd X dX8_read_42 ?_
      obtain ⟨x4_5, ex4_5, hf⟩ := f_lt hf
      refine j_top ex4_5 ?_
      refine j_istore (lv' := [(0, .ref (ad 0)), (1, .int x1), (2, .int x2), (3, .int x3), (4, .int x4_5)]) X dX8_read_43 (by decide) rfl ?_
      refine j_iconst X (v := (nI 0)) (by decide) dX8_read_45 ?_
      refine j_istore (lv' := [(0, .ref (ad 0)), (1, .int x1), (2, .int x2), (3, .int x3), (4, .int x4_5), (5, .int (nI 0))]) X dX8_read_46 (by decide) rfl ?_
      refine j_iload_n X 1 dX8_read_48 rfl rfl ?_
      refine j_istore (lv' := [(0, .ref (ad 0)), (1, .int x1), (2, .int x2), (3, .int x3), (4, .int x4_5), (5, .int (nI 0)), (6, .int x1)]) X dX8_read_49 (by decide) rfl ?_
      refine j_sub [0, 1, 4, 5, 6] rfl ?_
      refine t_X8_read_L51 X Y ?_ _ _ _ _ hf
      intro x5_6 x6_7 w8 hf
      exact t_X8_read_j85 X Y hf
    replace hf := f_f c hf
    refine j_bipush X (v := (-2 : Int32)) (by decide) dX8_read_34 ?_
    exact j_iret X Y (f_p1 hf) (f_p2 hf) dX8_read_36
  replace hf := f_fn c hf
  refine j_iconst X (v := (-1 : Int32)) (by decide) dX8_read_17 ?_
  exact j_iret X Y (f_p1 hf) (f_p2 hf) dX8_read_18
abbrev rmX8_ask : Room := { frames := 8, cells := 0, slots := 0, locals := 197 }
set_option maxRecDepth 100000 in
set_option maxHeartbeats 4000000 in
theorem c_X8_ask (hI : Inj 8 ad) {x1 : Int32} {w : Wd} {out : Int32 × Wd} (hf : m_X8_ask x1 w = some out) : Met l yX8_ask wsX8_ask rmX8_ask (va_Pc [.ref (ad 0), .int x1] (PW D (tR cI) 8 ad (cellR cI ad) w)) (QWi D 8 ad (cellR cI ad) out.1 out.2) 0 0 (AW 8 ad) := by
  refine mk_met (maxL := 2) (ret := (some .int)) RX8 hI (by decide) rfl rfl (Nat.le_of_ble_eq_true rfl) rfl rfl (fun p e s m args below meth c X Y => ?_)
  unfold m_X8_ask at hf
  refine j_aload_n X 0 dX8_ask_0 rfl rfl ?_
  obtain ⟨o1, ho1, hf⟩ := f_bd hf
  refine j_callVv X oMo rfl rfl [] (c_X8_hold X.2.2.2.2.2.2.2 ho1) (cwV 0 X.2.2.2.2.1 gX8_ask_X8_hold rfl rfl rfl (by decide +kernel) ⟨Nat.le_of_ble_eq_true rfl, Nat.le_of_ble_eq_true rfl⟩) rfl rfl (Nat.le_of_ble_eq_true rfl) dX8_ask_1 ?_
  refine j_aload_n X 0 dX8_ask_4 rfl rfl ?_
  refine j_aload_n X 0 dX8_ask_5 rfl rfl ?_
  refine j_iload_n X 1 dX8_ask_6 rfl rfl ?_
  obtain ⟨o2, ho2, hf⟩ := f_bd hf
  refine j_callVi X oMo rfl rfl [.int x1] (c_X8_asks X.2.2.2.2.2.2.2 ho2) (cwV 1 X.2.2.2.2.1 gX8_ask_X8_asks rfl rfl rfl (by decide +kernel) ⟨Nat.le_of_ble_eq_true rfl, Nat.le_of_ble_eq_true rfl⟩) rfl rfl (Nat.le_of_ble_eq_true rfl) dX8_ask_7 ?_
  obtain ⟨o3, ho3, hf⟩ := f_bd hf
  refine j_callVi X oMo rfl rfl [.int o2.1] (c_X8_closes X.2.2.2.2.2.2.2 ho3) (cwV 1 X.2.2.2.2.1 gX8_ask_X8_closes rfl rfl rfl (by decide +kernel) ⟨Nat.le_of_ble_eq_true rfl, Nat.le_of_ble_eq_true rfl⟩) rfl rfl (Nat.le_of_ble_eq_true rfl) dX8_ask_10 ?_
  exact j_iret X Y (f_p1 hf) (f_p2 hf) dX8_ask_13
abbrev rmX8_covers : Room := { frames := 2, cells := 0, slots := 0, locals := 43 }
theorem inX8_covers_X8 : ∀ w ∈ wsX80, w ∈ wsX8_covers := fun _ h => List.mem_cons_of_mem _ (List.mem_append_right _ h)
set_option maxRecDepth 100000 in
set_option maxHeartbeats 4000000 in
theorem t_X8_covers_j74 (X : CX p rmX8_covers s m args c cX8_covers 5 RX8 wsX8_covers D (tR cI) 8 ad) (Y : RX meth (some .int)) {x1 : Int32} {x2 : Int32} {x4 : Int32} {s0 : Int32} {w : Wd} {kc : Int32 → Int32 → Option (Int32)} {kx81 : Int32 → Option (Int32)} {out : Int32} (hf : m_X8_covers_j74 x1 x2 x4 s0 w kc kx81 = some out) (hk_kc : ∀ (y3 : Int32) (y4 : Int32), kc y3 y4 = some out → WJ p l e rmX8_covers s m args below meth c (MQ below (QWi D 8 ad (cellR cI ad) out w) args s 0 0 (AW 8 ad)) 5 D 8 ad (cellR cI ad) w 23 [(0, .ref (ad 0)), (1, .int x1), (2, .int x2), (3, .int y3), (4, .int y4)] []) (hk_kx81 : ∀ (y3 : Int32), kx81 y3 = some out → WJ p l e rmX8_covers s m args below meth c (MQ below (QWi D 8 ad (cellR cI ad) out w) args s 0 0 (AW 8 ad)) 5 D 8 ad (cellR cI ad) w 81 [(3, .int y3)] []) : WJ p l e rmX8_covers s m args below meth c (MQ below (QWi D 8 ad (cellR cI ad) out w) args s 0 0 (AW 8 ad)) 5 D 8 ad (cellR cI ad) w 74 [(0, .ref (ad 0)), (1, .int x1), (2, .int x2), (4, .int x4)] [.int s0] := by
  unfold m_X8_covers_j74 at hf
  refine j_istore_n (lv' := [(0, .ref (ad 0)), (1, .int x1), (2, .int x2), (3, .int s0), (4, .int x4)]) X dX8_covers_74 rfl (by decide) rfl ?_
  refine j_iinc (v := (x4 + (nI 1))) (lv' := [(0, .ref (ad 0)), (1, .int x1), (2, .int x2), (3, .int s0), (4, .int (x4 + (nI 1)))]) X 4 dX8_covers_75 rfl rfl (by decide) rfl ?_
  refine j_goto (tgt := 23) X dX8_covers_78 (by decide) ?_
  exact hk_kc _ _ hf
set_option maxRecDepth 100000 in
set_option maxHeartbeats 4000000 in
theorem t_X8_covers_j73 (X : CX p rmX8_covers s m args c cX8_covers 5 RX8 wsX8_covers D (tR cI) 8 ad) (Y : RX meth (some .int)) {x1 : Int32} {x2 : Int32} {x4 : Int32} {w : Wd} {kc : Int32 → Int32 → Option (Int32)} {kx81 : Int32 → Option (Int32)} {out : Int32} (hf : m_X8_covers_j73 x1 x2 x4 w kc kx81 = some out) (hk_kc : ∀ (y3 : Int32) (y4 : Int32), kc y3 y4 = some out → WJ p l e rmX8_covers s m args below meth c (MQ below (QWi D 8 ad (cellR cI ad) out w) args s 0 0 (AW 8 ad)) 5 D 8 ad (cellR cI ad) w 23 [(0, .ref (ad 0)), (1, .int x1), (2, .int x2), (3, .int y3), (4, .int y4)] []) (hk_kx81 : ∀ (y3 : Int32), kx81 y3 = some out → WJ p l e rmX8_covers s m args below meth c (MQ below (QWi D 8 ad (cellR cI ad) out w) args s 0 0 (AW 8 ad)) 5 D 8 ad (cellR cI ad) w 81 [(3, .int y3)] []) : WJ p l e rmX8_covers s m args below meth c (MQ below (QWi D 8 ad (cellR cI ad) out w) args s 0 0 (AW 8 ad)) 5 D 8 ad (cellR cI ad) w 73 [(0, .ref (ad 0)), (1, .int x1), (2, .int x2), (4, .int x4)] [] := by
  unfold m_X8_covers_j73 at hf
  refine j_iconst X (v := (nI 0)) (by decide) dX8_covers_73 ?_
  exact t_X8_covers_j74 X Y hf hk_kc hk_kx81
set_option maxRecDepth 100000 in
set_option maxHeartbeats 4000000 in
theorem t_X8_covers_L23 (X : CX p rmX8_covers s m args c cX8_covers 5 RX8 wsX8_covers D (tR cI) 8 ad) (Y : RX meth (some .int)) {x1 : Int32} {x2 : Int32} {w : Wd} {kx81 : Int32 → Option (Int32)} {out : Int32} (hk_kx81 : ∀ (y3 : Int32), kx81 y3 = some out → WJ p l e rmX8_covers s m args below meth c (MQ below (QWi D 8 ad (cellR cI ad) out w) args s 0 0 (AW 8 ad)) 5 D 8 ad (cellR cI ad) w 81 [(3, .int y3)] []) : ∀ (n : Nat) (x3 : Int32) (x4 : Int32), m_X8_covers_L23 x1 x2 w kx81 n x3 x4 = some out → WJ p l e rmX8_covers s m args below meth c (MQ below (QWi D 8 ad (cellR cI ad) out w) args s 0 0 (AW 8 ad)) 5 D 8 ad (cellR cI ad) w 23 [(0, .ref (ad 0)), (1, .int x1), (2, .int x2), (3, .int x3), (4, .int x4)] [] := by
  intro n
  induction n with
  | zero => intro x3 x4 hf; exact f_n hf
  | succ n ih =>
    intro x3 x4 hf
    rw [m_X8_covers_L23] at hf
    refine j_iload X 4 dX8_covers_23 rfl ?_
    refine j_iconst X (v := (nI 4)) (by decide) dX8_covers_25 ?_
    refine j_icmp_ge (tgt := 81) X dX8_covers_26 (by decide) (fun c => ?_) (fun c => ?_)
    · replace hf := f_t c hf
      refine j_sub [3] rfl ?_
      exact hk_kx81 _ hf
    replace hf := f_f c hf
    refine j_iload_n X 3 dX8_covers_29 rfl rfl ?_
    refine j_if_eq (tgt := 73) X dX8_covers_30 (by decide) (fun c => ?_) (fun c => ?_)
    · replace hf := f_t c hf
      refine j_sub [0, 1, 2, 4] rfl ?_
      exact t_X8_covers_j73 X Y hf ih hk_kx81
    replace hf := f_f c hf
    refine j_aload_n X 0 dX8_covers_33 rfl rfl ?_
    refine j_get (ref := "ProxyVersionsModel") (index := 7) (v := .ref (ad 1)) X oMo inX8_covers_X8 rfl 0 (by decide) (List.mem_of_getElem? (i := 1) rfl) rfl rfl dX8_covers_34 ?_
    refine j_sipush X (v := (nI 407)) (by decide) dX8_covers_37 ?_
    refine j_iconst X (v := (nI 4)) (by decide) dX8_covers_40 ?_
    refine j_iload_n X 2 dX8_covers_41 rfl rfl ?_
    refine j_imul X dX8_covers_42 ?_
    refine j_iadd X dX8_covers_43 ?_
    refine j_iload X 4 dX8_covers_44 rfl ?_
    refine j_iadd X dX8_covers_46 ?_
    obtain ⟨hi1, hf⟩ := f_c hf
    refine j_iald X 0 rfl r1 hi1 dX8_covers_47 ?_
    refine j_aload_n X 0 dX8_covers_48 rfl rfl ?_
    refine j_get (ref := "ProxyVersionsModel") (index := 7) (v := .ref (ad 1)) X oMo inX8_covers_X8 rfl 0 (by decide) (List.mem_of_getElem? (i := 1) rfl) rfl rfl dX8_covers_49 ?_
    refine j_sipush X (v := (nI 407)) (by decide) dX8_covers_52 ?_
    refine j_iconst X (v := (nI 4)) (by decide) dX8_covers_55 ?_
    refine j_iload_n X 1 dX8_covers_56 rfl rfl ?_
    refine j_imul X dX8_covers_57 ?_
    refine j_iadd X dX8_covers_58 ?_
    refine j_iload X 4 dX8_covers_59 rfl ?_
    refine j_iadd X dX8_covers_61 ?_
    obtain ⟨hi2, hf⟩ := f_c hf
    refine j_iald X 0 rfl r1 hi2 dX8_covers_62 ?_
    refine j_iconst X (v := (-1 : Int32)) (by decide) dX8_covers_63 ?_
    refine j_ixor X dX8_covers_64 ?_
    refine j_iand X dX8_covers_65 ?_
    refine j_if_ne (tgt := 73) X dX8_covers_66 (by decide) (fun c => ?_) (fun c => ?_)
    · replace hf := f_t c hf
      refine j_sub [0, 1, 2, 4] rfl ?_
      exact t_X8_covers_j73 X Y hf ih hk_kx81
    replace hf := f_fn c hf
    refine j_iconst X (v := (nI 1)) (by decide) dX8_covers_69 ?_
    refine j_goto (tgt := 74) X dX8_covers_70 (by decide) ?_
    refine j_sub [0, 1, 2, 4] rfl ?_
    exact t_X8_covers_j74 X Y hf ih hk_kx81
set_option maxRecDepth 100000 in
set_option maxHeartbeats 4000000 in
theorem c_X8_covers (hI : Inj 8 ad) {x1 : Int32} {x2 : Int32} {w : Wd} {out : Int32} (hf : m_X8_covers x1 x2 w = some out) : Met l yX8_covers wsX8_covers rmX8_covers (va_Pc [.ref (ad 0), .int x1, .int x2] (PW D (tR cI) 8 ad (cellR cI ad) w)) (QWi D 8 ad (cellR cI ad) out w) 0 0 (AW 8 ad) := by
  refine mk_met (maxL := 5) (ret := (some .int)) RX8 hI (by decide) rfl rfl (Nat.le_of_ble_eq_true rfl) rfl rfl (fun p e s m args below meth c X Y => ?_)
  unfold m_X8_covers at hf
  refine j_aload_n X 0 dX8_covers_0 rfl rfl ?_
  refine j_iload_n X 1 dX8_covers_1 rfl rfl ?_
  obtain ⟨o1, ho1, hf⟩ := f_bd hf
  refine j_callVi X oMo rfl rfl [.int x1] (c_X8_isProxy X.2.2.2.2.2.2.2 ho1) (cwV 1 X.2.2.2.2.1 gX8_covers_X8_isProxy rfl rfl rfl (by decide +kernel) ⟨Nat.le_of_ble_eq_true rfl, Nat.le_of_ble_eq_true rfl⟩) rfl rfl (Nat.le_of_ble_eq_true rfl) dX8_covers_2 ?_
  refine j_if_eq (tgt := 16) X dX8_covers_5 (by decide) (fun c => ?_) (fun c => ?_)
  · replace hf := f_t c hf
    refine j_iconst X (v := (-1 : Int32)) (by decide) dX8_covers_16 ?_
    exact j_iret X Y (f_s hf) rfl dX8_covers_17
  replace hf := f_f c hf
  refine j_aload_n X 0 dX8_covers_8 rfl rfl ?_
  refine j_iload_n X 2 dX8_covers_9 rfl rfl ?_
  obtain ⟨o2, ho2, hf⟩ := f_bd hf
  refine j_callVi X oMo rfl rfl [.int x2] (c_X8_isProxy X.2.2.2.2.2.2.2 ho2) (cwV 1 X.2.2.2.2.1 gX8_covers_X8_isProxy rfl rfl rfl (by decide +kernel) ⟨Nat.le_of_ble_eq_true rfl, Nat.le_of_ble_eq_true rfl⟩) rfl rfl (Nat.le_of_ble_eq_true rfl) dX8_covers_10 ?_
  refine j_if_ne (tgt := 18) X dX8_covers_13 (by decide) (fun c => ?_) (fun c => ?_)
  · replace hf := f_t c hf
    refine j_iconst X (v := (nI 1)) (by decide) dX8_covers_18 ?_
    refine j_istore_n (lv' := [(0, .ref (ad 0)), (1, .int x1), (2, .int x2), (3, .int (nI 1))]) X dX8_covers_19 rfl (by decide) rfl ?_
    refine j_iconst X (v := (nI 0)) (by decide) dX8_covers_20 ?_
    refine j_istore (lv' := [(0, .ref (ad 0)), (1, .int x1), (2, .int x2), (3, .int (nI 1)), (4, .int (nI 0))]) X dX8_covers_21 (by decide) rfl ?_
    refine t_X8_covers_L23 X Y ?_ _ _ _ hf
    intro x3_3 hf
    refine j_iload_n X 0 dX8_covers_81 rfl rfl ?_
    refine j_if_eq (tgt := 89) X dX8_covers_82 (by decide) (fun c => ?_) (fun c => ?_)
    · replace hf := f_t c hf
      refine j_iconst X (v := (nI 0)) (by decide) dX8_covers_89 ?_
      exact j_iret X Y (f_s hf) rfl dX8_covers_90
    replace hf := f_f c hf
    refine j_iconst X (v := (nI 1)) (by decide) dX8_covers_85 ?_
    refine j_goto (tgt := 90) X dX8_covers_86 (by decide) ?_
    exact j_iret X Y (f_s hf) rfl dX8_covers_90
  replace hf := f_fn c hf
  refine j_iconst X (v := (-1 : Int32)) (by decide) dX8_covers_16 ?_
  exact j_iret X Y (f_s hf) rfl dX8_covers_17
abbrev rmX8_upToDate : Room := { frames := 3, cells := 0, slots := 0, locals := 71 }
theorem inX8_upToDate_X8 : ∀ w ∈ wsX80, w ∈ wsX8_upToDate := fun _ h => List.mem_cons_of_mem _ (List.mem_append_right _ h)
set_option maxRecDepth 100000 in
set_option maxHeartbeats 4000000 in
theorem t_X8_upToDate_j59 (X : CX p rmX8_upToDate s m args c cX8_upToDate 5 RX8 wsX8_upToDate D (tR cI) 8 ad) (Y : RX meth (some .int)) {x1 : Int32} {x2 : Int32} {x4 : Int32} {s0 : Int32} {w : Wd} {kc : Int32 → Int32 → Wd → Option (Int32 × Wd)} {kx66 : Int32 → Wd → Option (Int32 × Wd)} {out : Int32 × Wd} (hf : m_X8_upToDate_j59 x1 x2 x4 s0 w kc kx66 = some out) (hk_kc : ∀ (y3 : Int32) (y4 : Int32) (v : Wd), kc y3 y4 v = some out → WJ p l e rmX8_upToDate s m args below meth c (MQ below (QWi D 8 ad (cellR cI ad) out.1 out.2) args s 0 0 (AW 8 ad)) 5 D 8 ad (cellR cI ad) v 24 [(0, .ref (ad 0)), (1, .int x1), (2, .int x2), (3, .int y3), (4, .int y4)] []) (hk_kx66 : ∀ (y3 : Int32) (v : Wd), kx66 y3 v = some out → WJ p l e rmX8_upToDate s m args below meth c (MQ below (QWi D 8 ad (cellR cI ad) out.1 out.2) args s 0 0 (AW 8 ad)) 5 D 8 ad (cellR cI ad) v 66 [(0, .ref (ad 0)), (1, .int x1), (2, .int x2), (3, .int y3)] []) : WJ p l e rmX8_upToDate s m args below meth c (MQ below (QWi D 8 ad (cellR cI ad) out.1 out.2) args s 0 0 (AW 8 ad)) 5 D 8 ad (cellR cI ad) w 59 [(0, .ref (ad 0)), (1, .int x1), (2, .int x2), (4, .int x4)] [.int s0] := by
  unfold m_X8_upToDate_j59 at hf
  refine j_istore_n (lv' := [(0, .ref (ad 0)), (1, .int x1), (2, .int x2), (3, .int s0), (4, .int x4)]) X dX8_upToDate_59 rfl (by decide) rfl ?_
  refine j_iinc (v := (x4 + (nI 1))) (lv' := [(0, .ref (ad 0)), (1, .int x1), (2, .int x2), (3, .int s0), (4, .int (x4 + (nI 1)))]) X 4 dX8_upToDate_60 rfl rfl (by decide) rfl ?_
  refine j_goto (tgt := 24) X dX8_upToDate_63 (by decide) ?_
  exact hk_kc _ _ _ hf
set_option maxRecDepth 100000 in
set_option maxHeartbeats 4000000 in
theorem t_X8_upToDate_j58 (X : CX p rmX8_upToDate s m args c cX8_upToDate 5 RX8 wsX8_upToDate D (tR cI) 8 ad) (Y : RX meth (some .int)) {x1 : Int32} {x2 : Int32} {x4 : Int32} {w : Wd} {kc : Int32 → Int32 → Wd → Option (Int32 × Wd)} {kx66 : Int32 → Wd → Option (Int32 × Wd)} {out : Int32 × Wd} (hf : m_X8_upToDate_j58 x1 x2 x4 w kc kx66 = some out) (hk_kc : ∀ (y3 : Int32) (y4 : Int32) (v : Wd), kc y3 y4 v = some out → WJ p l e rmX8_upToDate s m args below meth c (MQ below (QWi D 8 ad (cellR cI ad) out.1 out.2) args s 0 0 (AW 8 ad)) 5 D 8 ad (cellR cI ad) v 24 [(0, .ref (ad 0)), (1, .int x1), (2, .int x2), (3, .int y3), (4, .int y4)] []) (hk_kx66 : ∀ (y3 : Int32) (v : Wd), kx66 y3 v = some out → WJ p l e rmX8_upToDate s m args below meth c (MQ below (QWi D 8 ad (cellR cI ad) out.1 out.2) args s 0 0 (AW 8 ad)) 5 D 8 ad (cellR cI ad) v 66 [(0, .ref (ad 0)), (1, .int x1), (2, .int x2), (3, .int y3)] []) : WJ p l e rmX8_upToDate s m args below meth c (MQ below (QWi D 8 ad (cellR cI ad) out.1 out.2) args s 0 0 (AW 8 ad)) 5 D 8 ad (cellR cI ad) w 58 [(0, .ref (ad 0)), (1, .int x1), (2, .int x2), (4, .int x4)] [] := by
  unfold m_X8_upToDate_j58 at hf
  refine j_iconst X (v := (nI 0)) (by decide) dX8_upToDate_58 ?_
  exact t_X8_upToDate_j59 X Y hf hk_kc hk_kx66
set_option maxRecDepth 100000 in
set_option maxHeartbeats 4000000 in
theorem t_X8_upToDate_L24 (X : CX p rmX8_upToDate s m args c cX8_upToDate 5 RX8 wsX8_upToDate D (tR cI) 8 ad) (Y : RX meth (some .int)) {x1 : Int32} {x2 : Int32} {kx66 : Int32 → Wd → Option (Int32 × Wd)} {out : Int32 × Wd} (hk_kx66 : ∀ (y3 : Int32) (v : Wd), kx66 y3 v = some out → WJ p l e rmX8_upToDate s m args below meth c (MQ below (QWi D 8 ad (cellR cI ad) out.1 out.2) args s 0 0 (AW 8 ad)) 5 D 8 ad (cellR cI ad) v 66 [(0, .ref (ad 0)), (1, .int x1), (2, .int x2), (3, .int y3)] []) : ∀ (n : Nat) (x3 : Int32) (x4 : Int32) (w : Wd), m_X8_upToDate_L24 x1 x2 kx66 n x3 x4 w = some out → WJ p l e rmX8_upToDate s m args below meth c (MQ below (QWi D 8 ad (cellR cI ad) out.1 out.2) args s 0 0 (AW 8 ad)) 5 D 8 ad (cellR cI ad) w 24 [(0, .ref (ad 0)), (1, .int x1), (2, .int x2), (3, .int x3), (4, .int x4)] [] := by
  intro n
  induction n with
  | zero => intro x3 x4 w hf; exact f_n hf
  | succ n ih =>
    intro x3 x4 w hf
    rw [m_X8_upToDate_L24] at hf
    refine j_iload X 4 dX8_upToDate_24 rfl ?_
    refine j_iconst X (v := (nI 4)) (by decide) dX8_upToDate_26 ?_
    refine j_icmp_ge (tgt := 66) X dX8_upToDate_27 (by decide) (fun c => ?_) (fun c => ?_)
    · replace hf := f_t c hf
      refine j_sub [0, 1, 2, 3] rfl ?_
      exact hk_kx66 _ _ hf
    replace hf := f_f c hf
    refine j_iload_n X 3 dX8_upToDate_30 rfl rfl ?_
    refine j_if_eq (tgt := 58) X dX8_upToDate_31 (by decide) (fun c => ?_) (fun c => ?_)
    · replace hf := f_t c hf
      refine j_sub [0, 1, 2, 4] rfl ?_
      exact t_X8_upToDate_j58 X Y hf ih hk_kx66
    replace hf := f_f c hf
    refine j_aload_n X 0 dX8_upToDate_34 rfl rfl ?_
    refine j_get (ref := "ProxyVersionsModel") (index := 22) (v := .ref (ad 5)) X oMo inX8_upToDate_X8 rfl 6 (by decide) (List.mem_of_getElem? (i := 2) rfl) rfl rfl dX8_upToDate_35 ?_
    refine j_iload X 4 dX8_upToDate_38 rfl ?_
    obtain ⟨hi1, hf⟩ := f_c hf
    refine j_iald X 0 rfl r5 hi1 dX8_upToDate_40 ?_
    refine j_aload_n X 0 dX8_upToDate_41 rfl rfl ?_
    refine j_get (ref := "ProxyVersionsModel") (index := 7) (v := .ref (ad 1)) X oMo inX8_upToDate_X8 rfl 0 (by decide) (List.mem_of_getElem? (i := 1) rfl) rfl rfl dX8_upToDate_42 ?_
    refine j_bipush X (v := (nI 19)) (by decide) dX8_upToDate_45 ?_
    refine j_iload X 4 dX8_upToDate_47 rfl ?_
    refine j_iadd X dX8_upToDate_49 ?_
    obtain ⟨hi2, hf⟩ := f_c hf
    refine j_iald X 0 rfl r1 hi2 dX8_upToDate_50 ?_
    refine j_icmp_ne (tgt := 58) X dX8_upToDate_51 (by decide) (fun c => ?_) (fun c => ?_)
    · replace hf := f_t c hf
      refine j_sub [0, 1, 2, 4] rfl ?_
      exact t_X8_upToDate_j58 X Y hf ih hk_kx66
    replace hf := f_fn c hf
    refine j_iconst X (v := (nI 1)) (by decide) dX8_upToDate_54 ?_
    refine j_goto (tgt := 59) X dX8_upToDate_55 (by decide) ?_
    refine j_sub [0, 1, 2, 4] rfl ?_
    exact t_X8_upToDate_j59 X Y hf ih hk_kx66
set_option maxRecDepth 100000 in
set_option maxHeartbeats 4000000 in
theorem t_X8_upToDate_j76 (X : CX p rmX8_upToDate s m args c cX8_upToDate 5 RX8 wsX8_upToDate D (tR cI) 8 ad) (Y : RX meth (some .int)) {x2 : Int32} {s0 : Int32} {s1 : Int32} {w : Wd} {kc : Int32 → Int32 → Wd → Option (Int32 × Wd)} {out : Int32 × Wd} (hf : m_X8_upToDate_j76 x2 s0 s1 w kc = some out) (hk_kc : ∀ (y1 : Int32) (y2 : Int32) (v : Wd), kc y1 y2 v = some out → WJ p l e rmX8_upToDate s m args below meth c (MQ below (QWi D 8 ad (cellR cI ad) out.1 out.2) args s 0 0 (AW 8 ad)) 5 D 8 ad (cellR cI ad) v 4 [(0, .ref (ad 0)), (1, .int y1), (2, .int y2)] []) : WJ p l e rmX8_upToDate s m args below meth c (MQ below (QWi D 8 ad (cellR cI ad) out.1 out.2) args s 0 0 (AW 8 ad)) 5 D 8 ad (cellR cI ad) w 76 [(0, .ref (ad 0)), (2, .int x2)] [.int s1, .int s0] := by
  unfold m_X8_upToDate_j76 at hf
  refine j_iadd X dX8_upToDate_76 ?_
  obtain ⟨x1_1, ex1_1, hf⟩ := f_lt hf
  refine j_top ex1_1 ?_
  refine j_istore_n (lv' := [(0, .ref (ad 0)), (1, .int x1_1), (2, .int x2)]) X dX8_upToDate_77 rfl (by decide) rfl ?_
  refine j_iinc (v := (x2 + (nI 1))) (lv' := [(0, .ref (ad 0)), (1, .int x1_1), (2, .int (x2 + (nI 1)))]) X 2 dX8_upToDate_78 rfl rfl (by decide) rfl ?_
  refine j_goto (tgt := 4) X dX8_upToDate_81 (by decide) ?_
  exact hk_kc _ _ _ hf
set_option maxRecDepth 100000 in
set_option maxHeartbeats 4000000 in
theorem t_X8_upToDate_L4 (X : CX p rmX8_upToDate s m args c cX8_upToDate 5 RX8 wsX8_upToDate D (tR cI) 8 ad) (Y : RX meth (some .int)) {out : Int32 × Wd} : ∀ (n : Nat) (x1 : Int32) (x2 : Int32) (w : Wd), m_X8_upToDate_L4 n x1 x2 w = some out → WJ p l e rmX8_upToDate s m args below meth c (MQ below (QWi D 8 ad (cellR cI ad) out.1 out.2) args s 0 0 (AW 8 ad)) 5 D 8 ad (cellR cI ad) w 4 [(0, .ref (ad 0)), (1, .int x1), (2, .int x2)] [] := by
  intro n
  induction n with
  | zero => intro x1 x2 w hf; exact f_n hf
  | succ n ih =>
    intro x1 x2 w hf
    rw [m_X8_upToDate_L4] at hf
    refine j_iload_n X 2 dX8_upToDate_4 rfl rfl ?_
    refine j_aload_n X 0 dX8_upToDate_5 rfl rfl ?_
    refine j_get (ref := "ProxyVersionsModel") (index := 7) (v := .ref (ad 1)) X oMo inX8_upToDate_X8 rfl 0 (by decide) (List.mem_of_getElem? (i := 1) rfl) rfl rfl dX8_upToDate_6 ?_
    refine j_iconst X (v := (nI 0)) (by decide) dX8_upToDate_9 ?_
    obtain ⟨hi1, hf⟩ := f_c hf
    refine j_iald X 0 rfl r1 hi1 dX8_upToDate_10 ?_
    refine j_icmp_ge (tgt := 84) X dX8_upToDate_11 (by decide) (fun c => ?_) (fun c => ?_)
    · replace hf := f_t c hf
      refine j_iload_n X 1 dX8_upToDate_84 rfl rfl ?_
      exact j_iret X Y (f_p1 hf) (f_p2 hf) dX8_upToDate_85
    replace hf := f_f c hf
    refine j_aload_n X 0 dX8_upToDate_14 rfl rfl ?_
    refine j_iload_n X 2 dX8_upToDate_15 rfl rfl ?_
    obtain ⟨o2, ho2, hf⟩ := f_bd hf
    refine j_callVv X oMo rfl rfl [.int x2] (c_X8_serves X.2.2.2.2.2.2.2 ho2) (cwV 1 X.2.2.2.2.1 gX8_upToDate_X8_serves rfl rfl rfl (by decide +kernel) ⟨Nat.le_of_ble_eq_true rfl, Nat.le_of_ble_eq_true rfl⟩) rfl rfl (Nat.le_of_ble_eq_true rfl) dX8_upToDate_16 ?_
    refine j_iconst X (v := (nI 1)) (by decide) dX8_upToDate_19 ?_
    refine j_istore_n (lv' := [(0, .ref (ad 0)), (1, .int x1), (2, .int x2), (3, .int (nI 1))]) X dX8_upToDate_20 rfl (by decide) rfl ?_
    refine j_iconst X (v := (nI 0)) (by decide) dX8_upToDate_21 ?_
    refine j_istore (lv' := [(0, .ref (ad 0)), (1, .int x1), (2, .int x2), (3, .int (nI 1)), (4, .int (nI 0))]) X dX8_upToDate_22 (by decide) rfl ?_
    refine t_X8_upToDate_L24 X Y ?_ _ _ _ _ hf
    intro x3_3 w4 hf
    refine j_iload_n X 1 dX8_upToDate_66 rfl rfl ?_
    refine j_iload_n X 3 dX8_upToDate_67 rfl rfl ?_
    refine j_if_eq (tgt := 75) X dX8_upToDate_68 (by decide) (fun c => ?_) (fun c => ?_)
    · replace hf := f_t c hf
      refine j_iconst X (v := (nI 0)) (by decide) dX8_upToDate_75 ?_
      refine j_sub [0, 2] rfl ?_
      exact t_X8_upToDate_j76 X Y hf ih
    replace hf := f_f c hf
    refine j_iconst X (v := (nI 1)) (by decide) dX8_upToDate_71 ?_
    refine j_goto (tgt := 76) X dX8_upToDate_72 (by decide) ?_
    refine j_sub [0, 2] rfl ?_
    exact t_X8_upToDate_j76 X Y hf ih
set_option maxRecDepth 100000 in
set_option maxHeartbeats 4000000 in
theorem c_X8_upToDate (hI : Inj 8 ad) {w : Wd} {out : Int32 × Wd} (hf : m_X8_upToDate w = some out) : Met l yX8_upToDate wsX8_upToDate rmX8_upToDate (va_Pc [.ref (ad 0)] (PW D (tR cI) 8 ad (cellR cI ad) w)) (QWi D 8 ad (cellR cI ad) out.1 out.2) 0 0 (AW 8 ad) := by
  refine mk_met (maxL := 5) (ret := (some .int)) RX8 hI (by decide) rfl rfl (Nat.le_of_ble_eq_true rfl) rfl rfl (fun p e s m args below meth c X Y => ?_)
  unfold m_X8_upToDate at hf
  refine j_iconst X (v := (nI 0)) (by decide) dX8_upToDate_0 ?_
  refine j_istore_n (lv' := [(0, .ref (ad 0)), (1, .int (nI 0))]) X dX8_upToDate_1 rfl (by decide) rfl ?_
  refine j_iconst X (v := (nI 0)) (by decide) dX8_upToDate_2 ?_
  refine j_istore_n (lv' := [(0, .ref (ad 0)), (1, .int (nI 0)), (2, .int (nI 0))]) X dX8_upToDate_3 rfl (by decide) rfl ?_
  refine t_X8_upToDate_L4 X Y _ _ _ _ hf
abbrev rmX8_appendCharacter : Room := { frames := 1, cells := 0, slots := 0, locals := 22 }
theorem inX8_appendCharacter_X8 : ∀ w ∈ wsX80, w ∈ wsX8_appendCharacter := fun _ h => List.mem_cons_of_mem _ (List.mem_append_right _ h)
set_option maxRecDepth 100000 in
set_option maxHeartbeats 4000000 in
theorem c_X8_appendCharacter (hI : Inj 8 ad) {x1 : Int32} {w : Wd} {out : Int32 × Wd} (hf : m_X8_appendCharacter x1 w = some out) : Met l yX8_appendCharacter wsX8_appendCharacter rmX8_appendCharacter (va_Pc [.ref (ad 0), .int x1] (PW D (tR cI) 8 ad (cellR cI ad) w)) (QWi D 8 ad (cellR cI ad) out.1 out.2) 0 0 (AW 8 ad) := by
  refine mk_met (maxL := 2) (ret := (some .int)) RX8 hI (by decide) rfl rfl (Nat.le_of_ble_eq_true rfl) rfl rfl (fun p e s m args below meth c X Y => ?_)
  unfold m_X8_appendCharacter at hf
  refine j_iload_n X 1 dX8_appendCharacter_0 rfl rfl ?_
  refine j_iconst X (v := (nI 0)) (by decide) dX8_appendCharacter_1 ?_
  refine j_sipush X (v := (nI 255)) (by decide) dX8_appendCharacter_2 ?_
  obtain ⟨o1, ho1, hf⟩ := f_bd hf
  refine j_callSi X [.int x1, .int (nI 0), .int (nI 255)] (c_X8_in X.2.2.2.2.2.2.2 ho1) (va_cwS 3 X.2.2.2.2.1 gX8_appendCharacter_X8_in rfl rfl rfl (by decide +kernel) ⟨Nat.le_of_ble_eq_true rfl, Nat.le_of_ble_eq_true rfl⟩) rfl rfl (Nat.le_of_ble_eq_true rfl) dX8_appendCharacter_5 ?_
  refine j_if_ne (tgt := 13) X dX8_appendCharacter_8 (by decide) (fun c => ?_) (fun c => ?_)
  · replace hf := f_t c hf
    refine j_aload_n X 0 dX8_appendCharacter_13 rfl rfl ?_
    refine j_get (ref := "ProxyVersionsModel") (index := 147) (v := .int (w 0 5)) X oMo inX8_appendCharacter_X8 rfl 5 (by decide) (List.mem_of_getElem? (i := 1) rfl) rfl rfl dX8_appendCharacter_14 ?_
    refine j_bipush X (v := (nI 100)) (by decide) dX8_appendCharacter_17 ?_
    refine j_icmp_ne (tgt := 25) X dX8_appendCharacter_19 (by decide) (fun c => ?_) (fun c => ?_)
    · replace hf := f_t c hf
      refine j_aload_n X 0 dX8_appendCharacter_25 rfl rfl ?_
      refine j_get (ref := "ProxyVersionsModel") (index := 19) (v := .ref (ad 4)) X oMo inX8_appendCharacter_X8 rfl 4 (by decide) (List.mem_of_getElem? (i := 2) rfl) rfl rfl dX8_appendCharacter_26 ?_
      refine j_aload_n X 0 dX8_appendCharacter_29 rfl rfl ?_
      refine j_get (ref := "ProxyVersionsModel") (index := 147) (v := .int (w 0 5)) X oMo inX8_appendCharacter_X8 rfl 5 (by decide) (List.mem_of_getElem? (i := 1) rfl) rfl rfl dX8_appendCharacter_30 ?_
      refine j_iload_n X 1 dX8_appendCharacter_33 rfl rfl ?_
      obtain ⟨hi2, hf⟩ := f_c hf
      obtain ⟨w3, ew3, hf⟩ := f_lt hf
      refine j_iast X 0 rfl r4 hi2 dX8_appendCharacter_34 ew3 ?_
      refine j_aload_n X 0 dX8_appendCharacter_35 rfl rfl ?_
      refine j_dup X rfl dX8_appendCharacter_36 ?_
      refine j_get (ref := "ProxyVersionsModel") (index := 147) (v := .int (w3 0 5)) X oMo inX8_appendCharacter_X8 rfl 5 (by decide) (List.mem_of_getElem? (i := 1) rfl) rfl rfl dX8_appendCharacter_37 ?_
      refine j_iconst X (v := (nI 1)) (by decide) dX8_appendCharacter_40 ?_
      refine j_iadd X dX8_appendCharacter_41 ?_
      obtain ⟨w4, ew4, hf⟩ := f_lt hf
      refine j_put (ref := "ProxyVersionsModel") (index := 147)  X oMo inX8_appendCharacter_X8 tyX8_ok nmX8 rfl 5 (by decide) (List.mem_of_getElem? (i := 1) rfl) rfl rfl rfl (Nat.le_of_ble_eq_true rfl) rfl dX8_appendCharacter_42 ew4 ?_
      refine j_aload_n X 0 dX8_appendCharacter_45 rfl rfl ?_
      refine j_get (ref := "ProxyVersionsModel") (index := 147) (v := .int (w4 0 5)) X oMo inX8_appendCharacter_X8 rfl 5 (by decide) (List.mem_of_getElem? (i := 1) rfl) rfl rfl dX8_appendCharacter_46 ?_
      exact j_iret X Y (f_p1 hf) (f_p2 hf) dX8_appendCharacter_49
    replace hf := f_fn c hf
    refine j_bipush X (v := (-3 : Int32)) (by decide) dX8_appendCharacter_22 ?_
    exact j_iret X Y (f_p1 hf) (f_p2 hf) dX8_appendCharacter_24
  replace hf := f_fn c hf
  refine j_iconst X (v := (-1 : Int32)) (by decide) dX8_appendCharacter_11 ?_
  exact j_iret X Y (f_p1 hf) (f_p2 hf) dX8_appendCharacter_12
abbrev rmX8_clearText : Room := { frames := 0, cells := 0, slots := 0, locals := 0 }
theorem inX8_clearText_X8 : ∀ w ∈ wsX80, w ∈ wsX8_clearText := fun _ h => List.mem_cons_of_mem _ (List.mem_append_right _ h)
set_option maxRecDepth 100000 in
set_option maxHeartbeats 4000000 in
theorem c_X8_clearText (hI : Inj 8 ad) {w : Wd} {out : Int32 × Wd} (hf : m_X8_clearText w = some out) : Met l yX8_clearText wsX8_clearText rmX8_clearText (va_Pc [.ref (ad 0)] (PW D (tR cI) 8 ad (cellR cI ad) w)) (QWi D 8 ad (cellR cI ad) out.1 out.2) 0 0 (AW 8 ad) := by
  refine mk_met (maxL := 2) (ret := (some .int)) RX8 hI (by decide) rfl rfl (Nat.le_of_ble_eq_true rfl) rfl rfl (fun p e s m args below meth c X Y => ?_)
  unfold m_X8_clearText at hf
  refine j_aload_n X 0 dX8_clearText_0 rfl rfl ?_
  refine j_get (ref := "ProxyVersionsModel") (index := 147) (v := .int (w 0 5)) X oMo inX8_clearText_X8 rfl 5 (by decide) (List.mem_of_getElem? (i := 1) rfl) rfl rfl dX8_clearText_1 ?_
  obtain ⟨x1_1, ex1_1, hf⟩ := f_lt hf
  refine j_top ex1_1 ?_
  refine j_istore_n (lv' := [(0, .ref (ad 0)), (1, .int x1_1)]) X dX8_clearText_4 rfl (by decide) rfl ?_
  refine j_aload_n X 0 dX8_clearText_5 rfl rfl ?_
  refine j_iconst X (v := (nI 0)) (by decide) dX8_clearText_6 ?_
  obtain ⟨w2, ew2, hf⟩ := f_lt hf
  refine j_put (ref := "ProxyVersionsModel") (index := 147)  X oMo inX8_clearText_X8 tyX8_ok nmX8 rfl 5 (by decide) (List.mem_of_getElem? (i := 1) rfl) rfl rfl rfl (Nat.le_of_ble_eq_true rfl) rfl dX8_clearText_7 ew2 ?_
  refine j_iload_n X 1 dX8_clearText_10 rfl rfl ?_
  exact j_iret X Y (f_p1 hf) (f_p2 hf) dX8_clearText_11
abbrev rmX8_skips : Room := { frames := 0, cells := 0, slots := 0, locals := 0 }
theorem inX8_skips_X8 : ∀ w ∈ wsX80, w ∈ wsX8_skips := fun _ h => List.mem_cons_of_mem _ (List.mem_append_right _ h)
set_option maxRecDepth 100000 in
set_option maxHeartbeats 4000000 in
theorem t_X8_skips_L0 (X : CX p rmX8_skips s m args c cX8_skips 1 RX8 wsX8_skips D (tR cI) 8 ad) (Y : RX meth none) {out : Wd} : ∀ (n : Nat) (w : Wd), m_X8_skips_L0 n w = some out → WJ p l e rmX8_skips s m args below meth c (MQ below (QWv D 8 ad (cellR cI ad) out) args s 0 0 (AW 8 ad)) 1 D 8 ad (cellR cI ad) w 0 [(0, .ref (ad 0))] [] := by
  intro n
  induction n with
  | zero => intro w hf; exact f_n hf
  | succ n ih =>
    intro w hf
    rw [m_X8_skips_L0] at hf
    refine j_aload_n X 0 dX8_skips_0 rfl rfl ?_
    refine j_get (ref := "ProxyVersionsModel") (index := 150) (v := .int (w 0 10)) X oMo inX8_skips_X8 rfl 10 (by decide) (List.mem_of_getElem? (i := 1) rfl) rfl rfl dX8_skips_1 ?_
    refine j_aload_n X 0 dX8_skips_4 rfl rfl ?_
    refine j_get (ref := "ProxyVersionsModel") (index := 147) (v := .int (w 0 5)) X oMo inX8_skips_X8 rfl 5 (by decide) (List.mem_of_getElem? (i := 2) rfl) rfl rfl dX8_skips_5 ?_
    refine j_icmp_ge (tgt := 38) X dX8_skips_8 (by decide) (fun c => ?_) (fun c => ?_)
    · replace hf := f_t c hf
      exact j_vret X Y (f_s hf) dX8_skips_38
    replace hf := f_f c hf
    refine j_aload_n X 0 dX8_skips_11 rfl rfl ?_
    refine j_get (ref := "ProxyVersionsModel") (index := 19) (v := .ref (ad 4)) X oMo inX8_skips_X8 rfl 4 (by decide) (List.mem_of_getElem? (i := 3) rfl) rfl rfl dX8_skips_12 ?_
    refine j_aload_n X 0 dX8_skips_15 rfl rfl ?_
    refine j_get (ref := "ProxyVersionsModel") (index := 150) (v := .int (w 0 10)) X oMo inX8_skips_X8 rfl 10 (by decide) (List.mem_of_getElem? (i := 1) rfl) rfl rfl dX8_skips_16 ?_
    obtain ⟨hi1, hf⟩ := f_c hf
    refine j_iald X 0 rfl r4 hi1 dX8_skips_19 ?_
    refine j_bipush X (v := (nI 32)) (by decide) dX8_skips_20 ?_
    refine j_icmp_ne (tgt := 38) X dX8_skips_22 (by decide) (fun c => ?_) (fun c => ?_)
    · replace hf := f_t c hf
      exact j_vret X Y (f_s hf) dX8_skips_38
    replace hf := f_fn c hf
    refine j_aload_n X 0 dX8_skips_25 rfl rfl ?_
    refine j_dup X rfl dX8_skips_26 ?_
    refine j_get (ref := "ProxyVersionsModel") (index := 150) (v := .int (w 0 10)) X oMo inX8_skips_X8 rfl 10 (by decide) (List.mem_of_getElem? (i := 1) rfl) rfl rfl dX8_skips_27 ?_
    refine j_iconst X (v := (nI 1)) (by decide) dX8_skips_30 ?_
    refine j_iadd X dX8_skips_31 ?_
    obtain ⟨w2, ew2, hf⟩ := f_lt hf
    refine j_put (ref := "ProxyVersionsModel") (index := 150)  X oMo inX8_skips_X8 tyX8_ok nmX8 rfl 10 (by decide) (List.mem_of_getElem? (i := 1) rfl) rfl rfl rfl (Nat.le_of_ble_eq_true rfl) rfl dX8_skips_32 ew2 ?_
    refine j_goto (tgt := 0) X dX8_skips_35 (by decide) ?_
    exact ih _ hf
set_option maxRecDepth 100000 in
set_option maxHeartbeats 4000000 in
theorem c_X8_skips (hI : Inj 8 ad) {w : Wd} {out : Wd} (hf : m_X8_skips w = some out) : Met l yX8_skips wsX8_skips rmX8_skips (va_Pc [.ref (ad 0)] (PW D (tR cI) 8 ad (cellR cI ad) w)) (QWv D 8 ad (cellR cI ad) out) 0 0 (AW 8 ad) := by
  refine mk_met (maxL := 1) (ret := none) RX8 hI (by decide) rfl rfl (Nat.le_of_ble_eq_true rfl) rfl rfl (fun p e s m args below meth c X Y => ?_)
  unfold m_X8_skips at hf
  refine t_X8_skips_L0 X Y _ _ hf
abbrev rmX8_digit : Room := { frames := 1, cells := 0, slots := 0, locals := 22 }
theorem inX8_digit_X8 : ∀ w ∈ wsX80, w ∈ wsX8_digit := fun _ h => List.mem_cons_of_mem _ (List.mem_append_right _ h)
set_option maxRecDepth 100000 in
set_option maxHeartbeats 4000000 in
theorem c_X8_digit (hI : Inj 8 ad) {x1 : Int32} {x2 : Int32} {w : Wd} {out : Int32 × Wd} (hf : m_X8_digit x1 x2 w = some out) : Met l yX8_digit wsX8_digit rmX8_digit (va_Pc [.ref (ad 0), .int x1, .int x2] (PW D (tR cI) 8 ad (cellR cI ad) w)) (QWi D 8 ad (cellR cI ad) out.1 out.2) 0 0 (AW 8 ad) := by
  refine mk_met (maxL := 3) (ret := (some .int)) RX8 hI (by decide) rfl rfl (Nat.le_of_ble_eq_true rfl) rfl rfl (fun p e s m args below meth c X Y => ?_)
  unfold m_X8_digit at hf
  refine j_aload_n X 0 dX8_digit_0 rfl rfl ?_
  obtain ⟨o1, ho1, hf⟩ := f_bd hf
  refine j_callVv X oMo rfl rfl [] (c_X8_skips X.2.2.2.2.2.2.2 ho1) (cwV 0 X.2.2.2.2.1 gX8_digit_X8_skips rfl rfl rfl (by decide +kernel) ⟨Nat.le_of_ble_eq_true rfl, Nat.le_of_ble_eq_true rfl⟩) rfl rfl (Nat.le_of_ble_eq_true rfl) dX8_digit_1 ?_
  refine j_aload_n X 0 dX8_digit_4 rfl rfl ?_
  refine j_get (ref := "ProxyVersionsModel") (index := 150) (v := .int (o1 0 10)) X oMo inX8_digit_X8 rfl 10 (by decide) (List.mem_of_getElem? (i := 1) rfl) rfl rfl dX8_digit_5 ?_
  refine j_aload_n X 0 dX8_digit_8 rfl rfl ?_
  refine j_get (ref := "ProxyVersionsModel") (index := 147) (v := .int (o1 0 5)) X oMo inX8_digit_X8 rfl 5 (by decide) (List.mem_of_getElem? (i := 2) rfl) rfl rfl dX8_digit_9 ?_
  refine j_icmp_ge (tgt := 63) X dX8_digit_12 (by decide) (fun c => ?_) (fun c => ?_)
  · replace hf := f_t c hf
    refine j_bipush X (v := (-9 : Int32)) (by decide) dX8_digit_63 ?_
    exact j_iret X Y (f_p1 hf) (f_p2 hf) dX8_digit_65
  replace hf := f_f c hf
  refine j_aload_n X 0 dX8_digit_15 rfl rfl ?_
  refine j_get (ref := "ProxyVersionsModel") (index := 19) (v := .ref (ad 4)) X oMo inX8_digit_X8 rfl 4 (by decide) (List.mem_of_getElem? (i := 3) rfl) rfl rfl dX8_digit_16 ?_
  refine j_aload_n X 0 dX8_digit_19 rfl rfl ?_
  refine j_get (ref := "ProxyVersionsModel") (index := 150) (v := .int (o1 0 10)) X oMo inX8_digit_X8 rfl 10 (by decide) (List.mem_of_getElem? (i := 1) rfl) rfl rfl dX8_digit_20 ?_
  obtain ⟨hi2, hf⟩ := f_c hf
  refine j_iald X 0 rfl r4 hi2 dX8_digit_23 ?_
  refine j_bipush X (v := (nI 48)) (by decide) dX8_digit_24 ?_
  refine j_iload_n X 1 dX8_digit_26 rfl rfl ?_
  refine j_iadd X dX8_digit_27 ?_
  refine j_bipush X (v := (nI 48)) (by decide) dX8_digit_28 ?_
  refine j_iload_n X 2 dX8_digit_30 rfl rfl ?_
  refine j_iadd X dX8_digit_31 ?_
  obtain ⟨o3, ho3, hf⟩ := f_bd hf
  refine j_callSi X [.int (o1 4 (o1 0 10).toNatClampNeg), .int ((nI 48) + x1), .int ((nI 48) + x2)] (c_X8_in X.2.2.2.2.2.2.2 ho3) (va_cwS 3 X.2.2.2.2.1 gX8_digit_X8_in rfl rfl rfl (by decide +kernel) ⟨Nat.le_of_ble_eq_true rfl, Nat.le_of_ble_eq_true rfl⟩) rfl rfl (Nat.le_of_ble_eq_true rfl) dX8_digit_32 ?_
  refine j_if_eq (tgt := 63) X dX8_digit_35 (by decide) (fun c => ?_) (fun c => ?_)
  · replace hf := f_t c hf
    refine j_bipush X (v := (-9 : Int32)) (by decide) dX8_digit_63 ?_
    exact j_iret X Y (f_p1 hf) (f_p2 hf) dX8_digit_65
  replace hf := f_f c hf
  refine j_aload_n X 0 dX8_digit_38 rfl rfl ?_
  refine j_dup X rfl dX8_digit_39 ?_
  refine j_get (ref := "ProxyVersionsModel") (index := 150) (v := .int (o1 0 10)) X oMo inX8_digit_X8 rfl 10 (by decide) (List.mem_of_getElem? (i := 1) rfl) rfl rfl dX8_digit_40 ?_
  refine j_iconst X (v := (nI 1)) (by decide) dX8_digit_43 ?_
  refine j_iadd X dX8_digit_44 ?_
  obtain ⟨w4, ew4, hf⟩ := f_lt hf
  refine j_put (ref := "ProxyVersionsModel") (index := 150)  X oMo inX8_digit_X8 tyX8_ok nmX8 rfl 10 (by decide) (List.mem_of_getElem? (i := 1) rfl) rfl rfl rfl (Nat.le_of_ble_eq_true rfl) rfl dX8_digit_45 ew4 ?_
  refine j_aload_n X 0 dX8_digit_48 rfl rfl ?_
  refine j_get (ref := "ProxyVersionsModel") (index := 19) (v := .ref (ad 4)) X oMo inX8_digit_X8 rfl 4 (by decide) (List.mem_of_getElem? (i := 3) rfl) rfl rfl dX8_digit_49 ?_
  refine j_aload_n X 0 dX8_digit_52 rfl rfl ?_
  refine j_get (ref := "ProxyVersionsModel") (index := 150) (v := .int (w4 0 10)) X oMo inX8_digit_X8 rfl 10 (by decide) (List.mem_of_getElem? (i := 1) rfl) rfl rfl dX8_digit_53 ?_
  refine j_iconst X (v := (nI 1)) (by decide) dX8_digit_56 ?_
  refine j_isub X dX8_digit_57 ?_
  obtain ⟨hi5, hf⟩ := f_c hf
  refine j_iald X 0 rfl r4 hi5 dX8_digit_58 ?_
  refine j_bipush X (v := (nI 48)) (by decide) dX8_digit_59 ?_
  refine j_isub X dX8_digit_61 ?_
  exact j_iret X Y (f_p1 hf) (f_p2 hf) dX8_digit_62
abbrev rmX8_isCommand : Room := { frames := 2, cells := 0, slots := 0, locals := 44 }
theorem inX8_isCommand_X8 : ∀ w ∈ wsX80, w ∈ wsX8_isCommand := fun _ h => List.mem_cons_of_mem _ (List.mem_append_right _ h)
set_option maxRecDepth 100000 in
set_option maxHeartbeats 4000000 in
theorem t_X8_isCommand_j164 (X : CX p rmX8_isCommand s m args c cX8_isCommand 2 RX8 wsX8_isCommand D (tR cI) 8 ad) (Y : RX meth (some .boolean)) {s1 : Int32} {w : Wd} {out : Int32 × Wd} (hf : m_X8_isCommand_j164 s1 w = some out) : WJ p l e rmX8_isCommand s m args below meth c (MQ below (QWi D 8 ad (cellR cI ad) out.1 out.2) args s 0 0 (AW 8 ad)) 2 D 8 ad (cellR cI ad) w 164 [(0, .ref (ad 0))] [.int s1, .ref (ad 0)] := by
  unfold m_X8_isCommand_j164 at hf
  obtain ⟨w1, ew1, hf⟩ := f_lt hf
  refine j_put (ref := "ProxyVersionsModel") (index := 165)  X oMo inX8_isCommand_X8 tyX8_ok nmX8 rfl 13 (by decide) (List.mem_of_getElem? (i := 6) rfl) rfl rfl rfl (Nat.le_of_ble_eq_true rfl) rfl dX8_isCommand_164 ew1 ?_
  refine j_aload_n X 0 dX8_isCommand_167 rfl rfl ?_
  refine j_get (ref := "ProxyVersionsModel") (index := 165) (v := .int (w1 0 13)) X oMo inX8_isCommand_X8 rfl 13 (by decide) (List.mem_of_getElem? (i := 6) rfl) rfl rfl dX8_isCommand_168 ?_
  refine j_if_lt (tgt := 178) X dX8_isCommand_171 (by decide) (fun c => ?_) (fun c => ?_)
  · replace hf := f_t c hf
    refine j_iconst X (v := (nI 0)) (by decide) dX8_isCommand_178 ?_
    exact j_bret X Y (Eq.trans (by decide : (nI 0) &&& 1 = (nI 0)) (f_p1 hf)) (f_p2 hf) dX8_isCommand_179
  replace hf := f_f c hf
  refine j_iconst X (v := (nI 1)) (by decide) dX8_isCommand_174 ?_
  refine j_goto (tgt := 179) X dX8_isCommand_175 (by decide) ?_
  exact j_bret X Y (Eq.trans (by decide : (nI 1) &&& 1 = (nI 1)) (f_p1 hf)) (f_p2 hf) dX8_isCommand_179
set_option maxRecDepth 100000 in
set_option maxHeartbeats 4000000 in
theorem t_X8_isCommand_j136 (X : CX p rmX8_isCommand s m args c cX8_isCommand 2 RX8 wsX8_isCommand D (tR cI) 8 ad) (Y : RX meth (some .boolean)) {x1 : Int32} {s1 : Int32} {w : Wd} {out : Int32 × Wd} (hf : m_X8_isCommand_j136 x1 s1 w = some out) : WJ p l e rmX8_isCommand s m args below meth c (MQ below (QWi D 8 ad (cellR cI ad) out.1 out.2) args s 0 0 (AW 8 ad)) 2 D 8 ad (cellR cI ad) w 136 [(0, .ref (ad 0)), (1, .int x1)] [.int s1, .ref (ad 0)] := by
  unfold m_X8_isCommand_j136 at hf
  obtain ⟨w1, ew1, hf⟩ := f_lt hf
  refine j_put (ref := "ProxyVersionsModel") (index := 162)  X oMo inX8_isCommand_X8 tyX8_ok nmX8 rfl 12 (by decide) (List.mem_of_getElem? (i := 5) rfl) rfl rfl rfl (Nat.le_of_ble_eq_true rfl) rfl dX8_isCommand_136 ew1 ?_
  refine j_aload_n X 0 dX8_isCommand_139 rfl rfl ?_
  refine j_get (ref := "ProxyVersionsModel") (index := 162) (v := .int (w1 0 12)) X oMo inX8_isCommand_X8 rfl 12 (by decide) (List.mem_of_getElem? (i := 5) rfl) rfl rfl dX8_isCommand_140 ?_
  refine j_if_ge (tgt := 148) X dX8_isCommand_143 (by decide) (fun c => ?_) (fun c => ?_)
  · replace hf := f_t c hf
    refine j_aload_n X 0 dX8_isCommand_148 rfl rfl ?_
    refine j_iload_n X 1 dX8_isCommand_149 rfl rfl ?_
    refine j_if_eq (tgt := 163) X dX8_isCommand_150 (by decide) (fun c => ?_) (fun c => ?_)
    · replace hf := f_t c hf
      refine j_iconst X (v := (nI 0)) (by decide) dX8_isCommand_163 ?_
      refine j_sub [0] rfl ?_
      exact t_X8_isCommand_j164 X Y hf
    replace hf := f_f c hf
    refine j_aload_n X 0 dX8_isCommand_153 rfl rfl ?_
    refine j_iconst X (v := (nI 1)) (by decide) dX8_isCommand_154 ?_
    refine j_bipush X (v := (nI 9)) (by decide) dX8_isCommand_155 ?_
    obtain ⟨o2, ho2, hf⟩ := f_bd hf
    refine j_callVi X oMo rfl rfl [.int (nI 1), .int (nI 9)] (c_X8_digit X.2.2.2.2.2.2.2 ho2) (cwV 2 X.2.2.2.2.1 gX8_isCommand_X8_digit rfl rfl rfl (by decide +kernel) ⟨Nat.le_of_ble_eq_true rfl, Nat.le_of_ble_eq_true rfl⟩) rfl rfl (Nat.le_of_ble_eq_true rfl) dX8_isCommand_157 ?_
    refine j_goto (tgt := 164) X dX8_isCommand_160 (by decide) ?_
    refine j_sub [0] rfl ?_
    exact t_X8_isCommand_j164 X Y hf
  replace hf := f_f c hf
  refine j_iconst X (v := (nI 0)) (by decide) dX8_isCommand_146 ?_
  exact j_bret X Y (Eq.trans (by decide : (nI 0) &&& 1 = (nI 0)) (f_p1 hf)) (f_p2 hf) dX8_isCommand_147
set_option maxRecDepth 100000 in
set_option maxHeartbeats 4000000 in
theorem t_X8_isCommand_j133 (X : CX p rmX8_isCommand s m args c cX8_isCommand 2 RX8 wsX8_isCommand D (tR cI) 8 ad) (Y : RX meth (some .boolean)) {x1 : Int32} {s2 : Int32} {s3 : Int32} {w : Wd} {out : Int32 × Wd} (hf : m_X8_isCommand_j133 x1 s2 s3 w = some out) : WJ p l e rmX8_isCommand s m args below meth c (MQ below (QWi D 8 ad (cellR cI ad) out.1 out.2) args s 0 0 (AW 8 ad)) 2 D 8 ad (cellR cI ad) w 133 [(0, .ref (ad 0)), (1, .int x1)] [.int s3, .int s2, .ref (ad 0), .ref (ad 0)] := by
  unfold m_X8_isCommand_j133 at hf
  obtain ⟨o1, ho1, hf⟩ := f_bd hf
  refine j_callVi X oMo rfl rfl [.int s2, .int s3] (c_X8_digit X.2.2.2.2.2.2.2 ho1) (cwV 2 X.2.2.2.2.1 gX8_isCommand_X8_digit rfl rfl rfl (by decide +kernel) ⟨Nat.le_of_ble_eq_true rfl, Nat.le_of_ble_eq_true rfl⟩) rfl rfl (Nat.le_of_ble_eq_true rfl) dX8_isCommand_133 ?_
  exact t_X8_isCommand_j136 X Y hf
set_option maxRecDepth 100000 in
set_option maxHeartbeats 4000000 in
theorem t_X8_isCommand_j79 (X : CX p rmX8_isCommand s m args c cX8_isCommand 2 RX8 wsX8_isCommand D (tR cI) 8 ad) (Y : RX meth (some .boolean)) {x1 : Int32} {w : Wd} {out : Int32 × Wd} (hf : m_X8_isCommand_j79 x1 w = some out) : WJ p l e rmX8_isCommand s m args below meth c (MQ below (QWi D 8 ad (cellR cI ad) out.1 out.2) args s 0 0 (AW 8 ad)) 2 D 8 ad (cellR cI ad) w 79 [(0, .ref (ad 0)), (1, .int x1)] [] := by
  unfold m_X8_isCommand_j79 at hf
  refine j_aload_n X 0 dX8_isCommand_79 rfl rfl ?_
  refine j_dup X rfl dX8_isCommand_80 ?_
  refine j_get (ref := "ProxyVersionsModel") (index := 150) (v := .int (w 0 10)) X oMo inX8_isCommand_X8 rfl 10 (by decide) (List.mem_of_getElem? (i := 2) rfl) rfl rfl dX8_isCommand_81 ?_
  refine j_iconst X (v := (nI 1)) (by decide) dX8_isCommand_84 ?_
  refine j_iadd X dX8_isCommand_85 ?_
  obtain ⟨w1, ew1, hf⟩ := f_lt hf
  refine j_put (ref := "ProxyVersionsModel") (index := 150)  X oMo inX8_isCommand_X8 tyX8_ok nmX8 rfl 10 (by decide) (List.mem_of_getElem? (i := 2) rfl) rfl rfl rfl (Nat.le_of_ble_eq_true rfl) rfl dX8_isCommand_86 ew1 ?_
  refine j_aload_n X 0 dX8_isCommand_89 rfl rfl ?_
  refine j_iload_n X 1 dX8_isCommand_90 rfl rfl ?_
  refine j_if_eq (tgt := 110) X dX8_isCommand_91 (by decide) (fun c => ?_) (fun c => ?_)
  · replace hf := f_t c hf
    refine j_aload_n X 0 dX8_isCommand_110 rfl rfl ?_
    refine j_iconst X (v := (nI 0)) (by decide) dX8_isCommand_111 ?_
    refine j_aload_n X 0 dX8_isCommand_112 rfl rfl ?_
    refine j_get (ref := "ProxyVersionsModel") (index := 156) (v := .int (w1 0 11)) X oMo inX8_isCommand_X8 rfl 11 (by decide) (List.mem_of_getElem? (i := 3) rfl) rfl rfl dX8_isCommand_113 ?_
    refine j_bipush X (v := (nI 119)) (by decide) dX8_isCommand_116 ?_
    refine j_icmp_ne (tgt := 125) X dX8_isCommand_118 (by decide) (fun c => ?_) (fun c => ?_)
    · replace hf := f_t c hf
      refine j_aload_n X 0 dX8_isCommand_125 rfl rfl ?_
      refine j_get (ref := "ProxyVersionsModel") (index := 7) (v := .ref (ad 1)) X oMo inX8_isCommand_X8 rfl 0 (by decide) (List.mem_of_getElem? (i := 4) rfl) rfl rfl dX8_isCommand_126 ?_
      refine j_iconst X (v := (nI 0)) (by decide) dX8_isCommand_129 ?_
      obtain ⟨hi2, hf⟩ := f_c hf
      refine j_iald X 0 rfl r1 hi2 dX8_isCommand_130 ?_
      refine j_iconst X (v := (nI 1)) (by decide) dX8_isCommand_131 ?_
      refine j_isub X dX8_isCommand_132 ?_
      exact t_X8_isCommand_j133 X Y hf
    replace hf := f_fn c hf
    refine j_iconst X (v := (nI 3)) (by decide) dX8_isCommand_121 ?_
    refine j_goto (tgt := 133) X dX8_isCommand_122 (by decide) ?_
    exact t_X8_isCommand_j133 X Y hf
  replace hf := f_f c hf
  refine j_aload_n X 0 dX8_isCommand_94 rfl rfl ?_
  refine j_iconst X (v := (nI 1)) (by decide) dX8_isCommand_95 ?_
  refine j_aload_n X 0 dX8_isCommand_96 rfl rfl ?_
  refine j_get (ref := "ProxyVersionsModel") (index := 7) (v := .ref (ad 1)) X oMo inX8_isCommand_X8 rfl 0 (by decide) (List.mem_of_getElem? (i := 4) rfl) rfl rfl dX8_isCommand_97 ?_
  refine j_iconst X (v := (nI 0)) (by decide) dX8_isCommand_100 ?_
  obtain ⟨hi3, hf⟩ := f_c hf
  refine j_iald X 0 rfl r1 hi3 dX8_isCommand_101 ?_
  refine j_iconst X (v := (nI 1)) (by decide) dX8_isCommand_102 ?_
  refine j_isub X dX8_isCommand_103 ?_
  obtain ⟨o4, ho4, hf⟩ := f_bd hf
  refine j_callVi X oMo rfl rfl [.int (nI 1), .int ((w1 1 (nI 0).toNatClampNeg) - (nI 1))] (c_X8_digit X.2.2.2.2.2.2.2 ho4) (cwV 2 X.2.2.2.2.1 gX8_isCommand_X8_digit rfl rfl rfl (by decide +kernel) ⟨Nat.le_of_ble_eq_true rfl, Nat.le_of_ble_eq_true rfl⟩) rfl rfl (Nat.le_of_ble_eq_true rfl) dX8_isCommand_104 ?_
  refine j_goto (tgt := 136) X dX8_isCommand_107 (by decide) ?_
  exact t_X8_isCommand_j136 X Y hf
set_option maxRecDepth 100000 in
set_option maxHeartbeats 4000000 in
theorem t_X8_isCommand_j54 (X : CX p rmX8_isCommand s m args c cX8_isCommand 2 RX8 wsX8_isCommand D (tR cI) 8 ad) (Y : RX meth (some .boolean)) {s0 : Int32} {w : Wd} {out : Int32 × Wd} (hf : m_X8_isCommand_j54 s0 w = some out) : WJ p l e rmX8_isCommand s m args below meth c (MQ below (QWi D 8 ad (cellR cI ad) out.1 out.2) args s 0 0 (AW 8 ad)) 2 D 8 ad (cellR cI ad) w 54 [(0, .ref (ad 0))] [.int s0] := by
  unfold m_X8_isCommand_j54 at hf
  refine j_istore_n (lv' := [(0, .ref (ad 0)), (1, .int s0)]) X dX8_isCommand_54 rfl (by decide) rfl ?_
  refine j_iload_n X 1 dX8_isCommand_55 rfl rfl ?_
  refine j_if_ne (tgt := 79) X dX8_isCommand_56 (by decide) (fun c => ?_) (fun c => ?_)
  · replace hf := f_t c hf
    exact t_X8_isCommand_j79 X Y hf
  replace hf := f_fn c hf
  refine j_aload_n X 0 dX8_isCommand_59 rfl rfl ?_
  refine j_get (ref := "ProxyVersionsModel") (index := 156) (v := .int (w 0 11)) X oMo inX8_isCommand_X8 rfl 11 (by decide) (List.mem_of_getElem? (i := 3) rfl) rfl rfl dX8_isCommand_60 ?_
  refine j_bipush X (v := (nI 119)) (by decide) dX8_isCommand_63 ?_
  refine j_icmp_eq (tgt := 79) X dX8_isCommand_65 (by decide) (fun c => ?_) (fun c => ?_)
  · replace hf := f_t c hf
    exact t_X8_isCommand_j79 X Y hf
  replace hf := f_f c hf
  refine j_aload_n X 0 dX8_isCommand_68 rfl rfl ?_
  refine j_get (ref := "ProxyVersionsModel") (index := 156) (v := .int (w 0 11)) X oMo inX8_isCommand_X8 rfl 11 (by decide) (List.mem_of_getElem? (i := 3) rfl) rfl rfl dX8_isCommand_69 ?_
  refine j_bipush X (v := (nI 97)) (by decide) dX8_isCommand_72 ?_
  refine j_icmp_eq (tgt := 79) X dX8_isCommand_74 (by decide) (fun c => ?_) (fun c => ?_)
  · replace hf := f_t c hf
    exact t_X8_isCommand_j79 X Y hf
  replace hf := f_f c hf
  refine j_iconst X (v := (nI 0)) (by decide) dX8_isCommand_77 ?_
  exact j_bret X Y (Eq.trans (by decide : (nI 0) &&& 1 = (nI 0)) (f_p1 hf)) (f_p2 hf) dX8_isCommand_78
set_option maxRecDepth 100000 in
set_option maxHeartbeats 4000000 in
theorem t_X8_isCommand_j49 (X : CX p rmX8_isCommand s m args c cX8_isCommand 2 RX8 wsX8_isCommand D (tR cI) 8 ad) (Y : RX meth (some .boolean)) {w : Wd} {out : Int32 × Wd} (hf : m_X8_isCommand_j49 w = some out) : WJ p l e rmX8_isCommand s m args below meth c (MQ below (QWi D 8 ad (cellR cI ad) out.1 out.2) args s 0 0 (AW 8 ad)) 2 D 8 ad (cellR cI ad) w 49 [(0, .ref (ad 0))] [] := by
  unfold m_X8_isCommand_j49 at hf
  refine j_iconst X (v := (nI 1)) (by decide) dX8_isCommand_49 ?_
  refine j_goto (tgt := 54) X dX8_isCommand_50 (by decide) ?_
  exact t_X8_isCommand_j54 X Y hf
set_option maxRecDepth 100000 in
set_option maxHeartbeats 4000000 in
theorem c_X8_isCommand (hI : Inj 8 ad) {w : Wd} {out : Int32 × Wd} (hf : m_X8_isCommand w = some out) : Met l yX8_isCommand wsX8_isCommand rmX8_isCommand (va_Pc [.ref (ad 0)] (PW D (tR cI) 8 ad (cellR cI ad) w)) (QWi D 8 ad (cellR cI ad) out.1 out.2) 0 0 (AW 8 ad) := by
  refine mk_met (maxL := 2) (ret := (some .boolean)) RX8 hI (by decide) rfl rfl (Nat.le_of_ble_eq_true rfl) rfl rfl (fun p e s m args below meth c X Y => ?_)
  unfold m_X8_isCommand at hf
  refine j_aload_n X 0 dX8_isCommand_0 rfl rfl ?_
  refine j_aload_n X 0 dX8_isCommand_1 rfl rfl ?_
  refine j_get (ref := "ProxyVersionsModel") (index := 19) (v := .ref (ad 4)) X oMo inX8_isCommand_X8 rfl 4 (by decide) (List.mem_of_getElem? (i := 1) rfl) rfl rfl dX8_isCommand_2 ?_
  refine j_aload_n X 0 dX8_isCommand_5 rfl rfl ?_
  refine j_get (ref := "ProxyVersionsModel") (index := 150) (v := .int (w 0 10)) X oMo inX8_isCommand_X8 rfl 10 (by decide) (List.mem_of_getElem? (i := 2) rfl) rfl rfl dX8_isCommand_6 ?_
  obtain ⟨hi1, hf⟩ := f_c hf
  refine j_iald X 0 rfl r4 hi1 dX8_isCommand_9 ?_
  obtain ⟨w2, ew2, hf⟩ := f_lt hf
  refine j_put (ref := "ProxyVersionsModel") (index := 156)  X oMo inX8_isCommand_X8 tyX8_ok nmX8 rfl 11 (by decide) (List.mem_of_getElem? (i := 3) rfl) rfl rfl rfl (Nat.le_of_ble_eq_true rfl) rfl dX8_isCommand_10 ew2 ?_
  refine j_aload_n X 0 dX8_isCommand_13 rfl rfl ?_
  refine j_get (ref := "ProxyVersionsModel") (index := 156) (v := .int (w2 0 11)) X oMo inX8_isCommand_X8 rfl 11 (by decide) (List.mem_of_getElem? (i := 3) rfl) rfl rfl dX8_isCommand_14 ?_
  refine j_bipush X (v := (nI 117)) (by decide) dX8_isCommand_17 ?_
  refine j_icmp_eq (tgt := 49) X dX8_isCommand_19 (by decide) (fun c => ?_) (fun c => ?_)
  · replace hf := f_t c hf
    exact t_X8_isCommand_j49 X Y hf
  replace hf := f_f c hf
  refine j_aload_n X 0 dX8_isCommand_22 rfl rfl ?_
  refine j_get (ref := "ProxyVersionsModel") (index := 156) (v := .int (w2 0 11)) X oMo inX8_isCommand_X8 rfl 11 (by decide) (List.mem_of_getElem? (i := 3) rfl) rfl rfl dX8_isCommand_23 ?_
  refine j_bipush X (v := (nI 100)) (by decide) dX8_isCommand_26 ?_
  refine j_icmp_eq (tgt := 49) X dX8_isCommand_28 (by decide) (fun c => ?_) (fun c => ?_)
  · replace hf := f_t c hf
    exact t_X8_isCommand_j49 X Y hf
  replace hf := f_f c hf
  refine j_aload_n X 0 dX8_isCommand_31 rfl rfl ?_
  refine j_get (ref := "ProxyVersionsModel") (index := 156) (v := .int (w2 0 11)) X oMo inX8_isCommand_X8 rfl 11 (by decide) (List.mem_of_getElem? (i := 3) rfl) rfl rfl dX8_isCommand_32 ?_
  refine j_bipush X (v := (nI 120)) (by decide) dX8_isCommand_35 ?_
  refine j_icmp_eq (tgt := 49) X dX8_isCommand_37 (by decide) (fun c => ?_) (fun c => ?_)
  · replace hf := f_t c hf
    exact t_X8_isCommand_j49 X Y hf
  replace hf := f_f c hf
  refine j_aload_n X 0 dX8_isCommand_40 rfl rfl ?_
  refine j_get (ref := "ProxyVersionsModel") (index := 156) (v := .int (w2 0 11)) X oMo inX8_isCommand_X8 rfl 11 (by decide) (List.mem_of_getElem? (i := 3) rfl) rfl rfl dX8_isCommand_41 ?_
  refine j_bipush X (v := (nI 121)) (by decide) dX8_isCommand_44 ?_
  refine j_icmp_ne (tgt := 53) X dX8_isCommand_46 (by decide) (fun c => ?_) (fun c => ?_)
  · replace hf := f_t c hf
    refine j_iconst X (v := (nI 0)) (by decide) dX8_isCommand_53 ?_
    exact t_X8_isCommand_j54 X Y hf
  replace hf := f_fn c hf
  exact t_X8_isCommand_j49 X Y hf
abbrev rmX8_does : Room := { frames := 8, cells := 0, slots := 0, locals := 197 }
theorem inX8_does_X8 : ∀ w ∈ wsX80, w ∈ wsX8_does := fun _ h => List.mem_cons_of_mem _ (List.mem_append_right _ h)
set_option maxRecDepth 100000 in
set_option maxHeartbeats 4000000 in
theorem c_X8_does (hI : Inj 8 ad) {w : Wd} {out : Int32 × Wd} (hf : m_X8_does w = some out) : Met l yX8_does wsX8_does rmX8_does (va_Pc [.ref (ad 0)] (PW D (tR cI) 8 ad (cellR cI ad) w)) (QWi D 8 ad (cellR cI ad) out.1 out.2) 0 0 (AW 8 ad) := by
  refine mk_met (maxL := 1) (ret := (some .int)) RX8 hI (by decide) rfl rfl (Nat.le_of_ble_eq_true rfl) rfl rfl (fun p e s m args below meth c X Y => ?_)
  unfold m_X8_does at hf
  refine j_aload_n X 0 dX8_does_0 rfl rfl ?_
  refine j_get (ref := "ProxyVersionsModel") (index := 156) (v := .int (w 0 11)) X oMo inX8_does_X8 rfl 11 (by decide) (List.mem_of_getElem? (i := 1) rfl) rfl rfl dX8_does_1 ?_
  obtain ⟨sw1, esw1, hf⟩ := f_lt hf
  refine j_top esw1 ?_
  by_cases c_100 : sw1 = (nI 100)
  · replace hf := f_t c_100 hf
    refine j_look (tgt := 79) (off := 75) X dX8_does_4 (by decide) (by rw [c_100]; decide) (by decide) ?_
    refine j_aload_n X 0 dX8_does_79 rfl rfl ?_
    refine j_aload_n X 0 dX8_does_80 rfl rfl ?_
    refine j_get (ref := "ProxyVersionsModel") (index := 162) (v := .int (w 0 12)) X oMo inX8_does_X8 rfl 12 (by decide) (List.mem_of_getElem? (i := 2) rfl) rfl rfl dX8_does_81 ?_
    refine j_iconst X (v := (nI 1)) (by decide) dX8_does_84 ?_
    refine j_aload_n X 0 dX8_does_85 rfl rfl ?_
    refine j_get (ref := "ProxyVersionsModel") (index := 165) (v := .int (w 0 13)) X oMo inX8_does_X8 rfl 13 (by decide) (List.mem_of_getElem? (i := 3) rfl) rfl rfl dX8_does_86 ?_
    obtain ⟨o2, ho2, hf⟩ := f_bd hf
    refine j_callVi X oMo rfl rfl [.int (w 0 12), .int (nI 1), .int (w 0 13)] (c_X8_delivers X.2.2.2.2.2.2.2 ho2) (cwV 3 X.2.2.2.2.1 gX8_does_X8_delivers rfl rfl rfl (by decide +kernel) ⟨Nat.le_of_ble_eq_true rfl, Nat.le_of_ble_eq_true rfl⟩) rfl rfl (Nat.le_of_ble_eq_true rfl) dX8_does_89 ?_
    exact j_iret X Y (f_p1 hf) (f_p2 hf) dX8_does_92
  replace hf := f_f c_100 hf
  by_cases c_117 : sw1 = (nI 117)
  · replace hf := f_t c_117 hf
    refine j_look (tgt := 65) (off := 61) X dX8_does_4 (by decide) (by rw [c_117]; decide) (by decide) ?_
    refine j_aload_n X 0 dX8_does_65 rfl rfl ?_
    refine j_aload_n X 0 dX8_does_66 rfl rfl ?_
    refine j_get (ref := "ProxyVersionsModel") (index := 162) (v := .int (w 0 12)) X oMo inX8_does_X8 rfl 12 (by decide) (List.mem_of_getElem? (i := 2) rfl) rfl rfl dX8_does_67 ?_
    refine j_iconst X (v := (nI 0)) (by decide) dX8_does_70 ?_
    refine j_aload_n X 0 dX8_does_71 rfl rfl ?_
    refine j_get (ref := "ProxyVersionsModel") (index := 165) (v := .int (w 0 13)) X oMo inX8_does_X8 rfl 13 (by decide) (List.mem_of_getElem? (i := 3) rfl) rfl rfl dX8_does_72 ?_
    obtain ⟨o3, ho3, hf⟩ := f_bd hf
    refine j_callVi X oMo rfl rfl [.int (w 0 12), .int (nI 0), .int (w 0 13)] (c_X8_delivers X.2.2.2.2.2.2.2 ho3) (cwV 3 X.2.2.2.2.1 gX8_does_X8_delivers rfl rfl rfl (by decide +kernel) ⟨Nat.le_of_ble_eq_true rfl, Nat.le_of_ble_eq_true rfl⟩) rfl rfl (Nat.le_of_ble_eq_true rfl) dX8_does_75 ?_
    exact j_iret X Y (f_p1 hf) (f_p2 hf) dX8_does_78
  replace hf := f_f c_117 hf
  by_cases c_119 : sw1 = (nI 119)
  · replace hf := f_t c_119 hf
    refine j_look (tgt := 56) (off := 52) X dX8_does_4 (by decide) (by rw [c_119]; decide) (by decide) ?_
    refine j_aload_n X 0 dX8_does_56 rfl rfl ?_
    refine j_aload_n X 0 dX8_does_57 rfl rfl ?_
    refine j_get (ref := "ProxyVersionsModel") (index := 162) (v := .int (w 0 12)) X oMo inX8_does_X8 rfl 12 (by decide) (List.mem_of_getElem? (i := 2) rfl) rfl rfl dX8_does_58 ?_
    obtain ⟨o4, ho4, hf⟩ := f_bd hf
    refine j_callVi X oMo rfl rfl [.int (w 0 12)] (c_X8_makes X.2.2.2.2.2.2.2 ho4) (cwV 1 X.2.2.2.2.1 gX8_does_X8_makes rfl rfl rfl (by decide +kernel) ⟨Nat.le_of_ble_eq_true rfl, Nat.le_of_ble_eq_true rfl⟩) rfl rfl (Nat.le_of_ble_eq_true rfl) dX8_does_61 ?_
    exact j_iret X Y (f_p1 hf) (f_p2 hf) dX8_does_64
  replace hf := f_f c_119 hf
  by_cases c_120 : sw1 = (nI 120)
  · replace hf := f_t c_120 hf
    refine j_look (tgt := 93) (off := 89) X dX8_does_4 (by decide) (by rw [c_120]; decide) (by decide) ?_
    refine j_aload_n X 0 dX8_does_93 rfl rfl ?_
    refine j_aload_n X 0 dX8_does_94 rfl rfl ?_
    refine j_get (ref := "ProxyVersionsModel") (index := 162) (v := .int (w 0 12)) X oMo inX8_does_X8 rfl 12 (by decide) (List.mem_of_getElem? (i := 2) rfl) rfl rfl dX8_does_95 ?_
    refine j_iconst X (v := (nI 0)) (by decide) dX8_does_98 ?_
    refine j_aload_n X 0 dX8_does_99 rfl rfl ?_
    refine j_get (ref := "ProxyVersionsModel") (index := 165) (v := .int (w 0 13)) X oMo inX8_does_X8 rfl 13 (by decide) (List.mem_of_getElem? (i := 3) rfl) rfl rfl dX8_does_100 ?_
    obtain ⟨o5, ho5, hf⟩ := f_bd hf
    refine j_callVi X oMo rfl rfl [.int (w 0 12), .int (nI 0), .int (w 0 13)] (c_X8_loses X.2.2.2.2.2.2.2 ho5) (cwV 3 X.2.2.2.2.1 gX8_does_X8_loses rfl rfl rfl (by decide +kernel) ⟨Nat.le_of_ble_eq_true rfl, Nat.le_of_ble_eq_true rfl⟩) rfl rfl (Nat.le_of_ble_eq_true rfl) dX8_does_103 ?_
    exact j_iret X Y (f_p1 hf) (f_p2 hf) dX8_does_106
  replace hf := f_f c_120 hf
  by_cases c_121 : sw1 = (nI 121)
  · replace hf := f_t c_121 hf
    refine j_look (tgt := 107) (off := 103) X dX8_does_4 (by decide) (by rw [c_121]; decide) (by decide) ?_
    refine j_aload_n X 0 dX8_does_107 rfl rfl ?_
    refine j_aload_n X 0 dX8_does_108 rfl rfl ?_
    refine j_get (ref := "ProxyVersionsModel") (index := 162) (v := .int (w 0 12)) X oMo inX8_does_X8 rfl 12 (by decide) (List.mem_of_getElem? (i := 2) rfl) rfl rfl dX8_does_109 ?_
    refine j_iconst X (v := (nI 1)) (by decide) dX8_does_112 ?_
    refine j_aload_n X 0 dX8_does_113 rfl rfl ?_
    refine j_get (ref := "ProxyVersionsModel") (index := 165) (v := .int (w 0 13)) X oMo inX8_does_X8 rfl 13 (by decide) (List.mem_of_getElem? (i := 3) rfl) rfl rfl dX8_does_114 ?_
    obtain ⟨o6, ho6, hf⟩ := f_bd hf
    refine j_callVi X oMo rfl rfl [.int (w 0 12), .int (nI 1), .int (w 0 13)] (c_X8_loses X.2.2.2.2.2.2.2 ho6) (cwV 3 X.2.2.2.2.1 gX8_does_X8_loses rfl rfl rfl (by decide +kernel) ⟨Nat.le_of_ble_eq_true rfl, Nat.le_of_ble_eq_true rfl⟩) rfl rfl (Nat.le_of_ble_eq_true rfl) dX8_does_117 ?_
    exact j_iret X Y (f_p1 hf) (f_p2 hf) dX8_does_120
  replace hf := f_f c_121 hf
  have nc_100 : ¬ (100 : Int) = (sw1).toInt := fun h => c_100 (Int32.toInt_inj.mp (h.symm.trans (by decide)))
  have nc_117 : ¬ (117 : Int) = (sw1).toInt := fun h => c_117 (Int32.toInt_inj.mp (h.symm.trans (by decide)))
  have nc_119 : ¬ (119 : Int) = (sw1).toInt := fun h => c_119 (Int32.toInt_inj.mp (h.symm.trans (by decide)))
  have nc_120 : ¬ (120 : Int) = (sw1).toInt := fun h => c_120 (Int32.toInt_inj.mp (h.symm.trans (by decide)))
  have nc_121 : ¬ (121 : Int) = (sw1).toInt := fun h => c_121 (Int32.toInt_inj.mp (h.symm.trans (by decide)))
  refine j_look (tgt := 121) (off := 117) X dX8_does_4 (by decide) (by simp only [Op.lookupswitch.offset_cons, Op.lookupswitch.offset_nil, nc_100, nc_117, nc_119, nc_120, nc_121, if_false]) (by decide) ?_
  refine j_aload_n X 0 dX8_does_121 rfl rfl ?_
  refine j_aload_n X 0 dX8_does_122 rfl rfl ?_
  refine j_get (ref := "ProxyVersionsModel") (index := 162) (v := .int (w 0 12)) X oMo inX8_does_X8 rfl 12 (by decide) (List.mem_of_getElem? (i := 2) rfl) rfl rfl dX8_does_123 ?_
  obtain ⟨o7, ho7, hf⟩ := f_bd hf
  refine j_callVi X oMo rfl rfl [.int (w 0 12)] (c_X8_asks X.2.2.2.2.2.2.2 ho7) (cwV 1 X.2.2.2.2.1 gX8_does_X8_asks rfl rfl rfl (by decide +kernel) ⟨Nat.le_of_ble_eq_true rfl, Nat.le_of_ble_eq_true rfl⟩) rfl rfl (Nat.le_of_ble_eq_true rfl) dX8_does_126 ?_
  exact j_iret X Y (f_p1 hf) (f_p2 hf) dX8_does_129
abbrev rmX8_runScript : Room := { frames := 9, cells := 0, slots := 0, locals := 217 }
theorem inX8_runScript_X8 : ∀ w ∈ wsX80, w ∈ wsX8_runScript := fun _ h => List.mem_cons_of_mem _ (List.mem_append_right _ h)
set_option maxRecDepth 100000 in
set_option maxHeartbeats 4000000 in
theorem t_X8_runScript_L9 (X : CX p rmX8_runScript s m args c cX8_runScript 2 RX8 wsX8_runScript D (tR cI) 8 ad) (Y : RX meth (some .int)) {kx27 : Wd → Option (Int32 × Wd)} {kx42 : Wd → Option (Int32 × Wd)} {out : Int32 × Wd} (hk_kx27 : ∀  (v : Wd), kx27 v = some out → WJ p l e rmX8_runScript s m args below meth c (MQ below (QWi D 8 ad (cellR cI ad) out.1 out.2) args s 0 0 (AW 8 ad)) 2 D 8 ad (cellR cI ad) v 27 [(0, .ref (ad 0))] []) (hk_kx42 : ∀  (v : Wd), kx42 v = some out → WJ p l e rmX8_runScript s m args below meth c (MQ below (QWi D 8 ad (cellR cI ad) out.1 out.2) args s 0 0 (AW 8 ad)) 2 D 8 ad (cellR cI ad) v 42 [(0, .ref (ad 0))] []) : ∀ (n : Nat) (w : Wd), m_X8_runScript_L9 kx27 kx42 n w = some out → WJ p l e rmX8_runScript s m args below meth c (MQ below (QWi D 8 ad (cellR cI ad) out.1 out.2) args s 0 0 (AW 8 ad)) 2 D 8 ad (cellR cI ad) w 9 [(0, .ref (ad 0))] [] := by
  intro n
  induction n with
  | zero => intro w hf; exact f_n hf
  | succ n ih =>
    intro w hf
    rw [m_X8_runScript_L9] at hf
    refine j_aload_n X 0 dX8_runScript_9 rfl rfl ?_
    refine j_get (ref := "ProxyVersionsModel") (index := 150) (v := .int (w 0 10)) X oMo inX8_runScript_X8 rfl 10 (by decide) (List.mem_of_getElem? (i := 1) rfl) rfl rfl dX8_runScript_10 ?_
    refine j_aload_n X 0 dX8_runScript_13 rfl rfl ?_
    refine j_get (ref := "ProxyVersionsModel") (index := 147) (v := .int (w 0 5)) X oMo inX8_runScript_X8 rfl 5 (by decide) (List.mem_of_getElem? (i := 2) rfl) rfl rfl dX8_runScript_14 ?_
    refine j_icmp_ge (tgt := 42) X dX8_runScript_17 (by decide) (fun c => ?_) (fun c => ?_)
    · replace hf := f_t c hf
      exact hk_kx42 _ hf
    replace hf := f_f c hf
    refine j_aload_n X 0 dX8_runScript_20 rfl rfl ?_
    obtain ⟨o1, ho1, hf⟩ := f_bd hf
    refine j_callVi X oMo rfl rfl [] (c_X8_isCommand X.2.2.2.2.2.2.2 ho1) (cwV 0 X.2.2.2.2.1 gX8_runScript_X8_isCommand rfl rfl rfl (by decide +kernel) ⟨Nat.le_of_ble_eq_true rfl, Nat.le_of_ble_eq_true rfl⟩) rfl rfl (Nat.le_of_ble_eq_true rfl) dX8_runScript_21 ?_
    refine j_if_ne (tgt := 35) X dX8_runScript_24 (by decide) (fun c => ?_) (fun c => ?_)
    · replace hf := f_t c hf
      refine j_aload_n X 0 dX8_runScript_35 rfl rfl ?_
      obtain ⟨o2, ho2, hf⟩ := f_bd hf
      refine j_callVv X oMo rfl rfl [] (c_X8_skips X.2.2.2.2.2.2.2 ho2) (cwV 0 X.2.2.2.2.1 gX8_runScript_X8_skips rfl rfl rfl (by decide +kernel) ⟨Nat.le_of_ble_eq_true rfl, Nat.le_of_ble_eq_true rfl⟩) rfl rfl (Nat.le_of_ble_eq_true rfl) dX8_runScript_36 ?_
      refine j_goto (tgt := 9) X dX8_runScript_39 (by decide) ?_
      exact ih _ hf
    replace hf := f_fn c hf
    exact hk_kx27 _ hf
set_option maxRecDepth 100000 in
set_option maxHeartbeats 4000000 in
theorem t_X8_runScript_j88 (X : CX p rmX8_runScript s m args c cX8_runScript 2 RX8 wsX8_runScript D (tR cI) 8 ad) (Y : RX meth (some .int)) {s0 : Int32} {s1 : Int32} {w : Wd} {kc : Int32 → Wd → Option (Int32 × Wd)} {kx97 : Int32 → Wd → Option (Int32 × Wd)} {out : Int32 × Wd} (hf : m_X8_runScript_j88 s0 s1 w kc kx97 = some out) (hk_kc : ∀ (y1 : Int32) (v : Wd), kc y1 v = some out → WJ p l e rmX8_runScript s m args below meth c (MQ below (QWi D 8 ad (cellR cI ad) out.1 out.2) args s 0 0 (AW 8 ad)) 2 D 8 ad (cellR cI ad) v 57 [(0, .ref (ad 0)), (1, .int y1)] []) (hk_kx97 : ∀ (y1 : Int32) (v : Wd), kx97 y1 v = some out → WJ p l e rmX8_runScript s m args below meth c (MQ below (QWi D 8 ad (cellR cI ad) out.1 out.2) args s 0 0 (AW 8 ad)) 2 D 8 ad (cellR cI ad) v 97 [(0, .ref (ad 0)), (1, .int y1)] []) : WJ p l e rmX8_runScript s m args below meth c (MQ below (QWi D 8 ad (cellR cI ad) out.1 out.2) args s 0 0 (AW 8 ad)) 2 D 8 ad (cellR cI ad) w 88 [(0, .ref (ad 0))] [.int s1, .int s0] := by
  unfold m_X8_runScript_j88 at hf
  refine j_iadd X dX8_runScript_88 ?_
  obtain ⟨x1_1, ex1_1, hf⟩ := f_lt hf
  refine j_top ex1_1 ?_
  refine j_istore_n (lv' := [(0, .ref (ad 0)), (1, .int x1_1)]) X dX8_runScript_89 rfl (by decide) rfl ?_
  refine j_aload_n X 0 dX8_runScript_90 rfl rfl ?_
  obtain ⟨o2, ho2, hf⟩ := f_bd hf
  refine j_callVv X oMo rfl rfl [] (c_X8_skips X.2.2.2.2.2.2.2 ho2) (cwV 0 X.2.2.2.2.1 gX8_runScript_X8_skips rfl rfl rfl (by decide +kernel) ⟨Nat.le_of_ble_eq_true rfl, Nat.le_of_ble_eq_true rfl⟩) rfl rfl (Nat.le_of_ble_eq_true rfl) dX8_runScript_91 ?_
  refine j_goto (tgt := 57) X dX8_runScript_94 (by decide) ?_
  exact hk_kc _ _ hf
set_option maxRecDepth 100000 in
set_option maxHeartbeats 4000000 in
theorem t_X8_runScript_j87 (X : CX p rmX8_runScript s m args c cX8_runScript 2 RX8 wsX8_runScript D (tR cI) 8 ad) (Y : RX meth (some .int)) {s0 : Int32} {w : Wd} {kc : Int32 → Wd → Option (Int32 × Wd)} {kx97 : Int32 → Wd → Option (Int32 × Wd)} {out : Int32 × Wd} (hf : m_X8_runScript_j87 s0 w kc kx97 = some out) (hk_kc : ∀ (y1 : Int32) (v : Wd), kc y1 v = some out → WJ p l e rmX8_runScript s m args below meth c (MQ below (QWi D 8 ad (cellR cI ad) out.1 out.2) args s 0 0 (AW 8 ad)) 2 D 8 ad (cellR cI ad) v 57 [(0, .ref (ad 0)), (1, .int y1)] []) (hk_kx97 : ∀ (y1 : Int32) (v : Wd), kx97 y1 v = some out → WJ p l e rmX8_runScript s m args below meth c (MQ below (QWi D 8 ad (cellR cI ad) out.1 out.2) args s 0 0 (AW 8 ad)) 2 D 8 ad (cellR cI ad) v 97 [(0, .ref (ad 0)), (1, .int y1)] []) : WJ p l e rmX8_runScript s m args below meth c (MQ below (QWi D 8 ad (cellR cI ad) out.1 out.2) args s 0 0 (AW 8 ad)) 2 D 8 ad (cellR cI ad) w 87 [(0, .ref (ad 0))] [.int s0] := by
  unfold m_X8_runScript_j87 at hf
  refine j_iconst X (v := (nI 0)) (by decide) dX8_runScript_87 ?_
  exact t_X8_runScript_j88 X Y hf hk_kc hk_kx97
set_option maxRecDepth 100000 in
set_option maxHeartbeats 4000000 in
theorem t_X8_runScript_L57 (X : CX p rmX8_runScript s m args c cX8_runScript 2 RX8 wsX8_runScript D (tR cI) 8 ad) (Y : RX meth (some .int)) {kx97 : Int32 → Wd → Option (Int32 × Wd)} {out : Int32 × Wd} (hk_kx97 : ∀ (y1 : Int32) (v : Wd), kx97 y1 v = some out → WJ p l e rmX8_runScript s m args below meth c (MQ below (QWi D 8 ad (cellR cI ad) out.1 out.2) args s 0 0 (AW 8 ad)) 2 D 8 ad (cellR cI ad) v 97 [(0, .ref (ad 0)), (1, .int y1)] []) : ∀ (n : Nat) (x1 : Int32) (w : Wd), m_X8_runScript_L57 kx97 n x1 w = some out → WJ p l e rmX8_runScript s m args below meth c (MQ below (QWi D 8 ad (cellR cI ad) out.1 out.2) args s 0 0 (AW 8 ad)) 2 D 8 ad (cellR cI ad) w 57 [(0, .ref (ad 0)), (1, .int x1)] [] := by
  intro n
  induction n with
  | zero => intro x1 w hf; exact f_n hf
  | succ n ih =>
    intro x1 w hf
    rw [m_X8_runScript_L57] at hf
    refine j_aload_n X 0 dX8_runScript_57 rfl rfl ?_
    refine j_get (ref := "ProxyVersionsModel") (index := 150) (v := .int (w 0 10)) X oMo inX8_runScript_X8 rfl 10 (by decide) (List.mem_of_getElem? (i := 1) rfl) rfl rfl dX8_runScript_58 ?_
    refine j_aload_n X 0 dX8_runScript_61 rfl rfl ?_
    refine j_get (ref := "ProxyVersionsModel") (index := 147) (v := .int (w 0 5)) X oMo inX8_runScript_X8 rfl 5 (by decide) (List.mem_of_getElem? (i := 2) rfl) rfl rfl dX8_runScript_62 ?_
    refine j_icmp_ge (tgt := 97) X dX8_runScript_65 (by decide) (fun c => ?_) (fun c => ?_)
    · replace hf := f_t c hf
      exact hk_kx97 _ _ hf
    replace hf := f_f c hf
    refine j_iload_n X 1 dX8_runScript_68 rfl rfl ?_
    refine j_aload_n X 0 dX8_runScript_69 rfl rfl ?_
    obtain ⟨o1, ho1, hf⟩ := f_bd hf
    refine j_callVi X oMo rfl rfl [] (c_X8_isCommand X.2.2.2.2.2.2.2 ho1) (cwV 0 X.2.2.2.2.1 gX8_runScript_X8_isCommand rfl rfl rfl (by decide +kernel) ⟨Nat.le_of_ble_eq_true rfl, Nat.le_of_ble_eq_true rfl⟩) rfl rfl (Nat.le_of_ble_eq_true rfl) dX8_runScript_70 ?_
    refine j_if_eq (tgt := 87) X dX8_runScript_73 (by decide) (fun c => ?_) (fun c => ?_)
    · replace hf := f_t c hf
      refine j_sub [0] rfl ?_
      exact t_X8_runScript_j87 X Y hf ih hk_kx97
    replace hf := f_f c hf
    refine j_aload_n X 0 dX8_runScript_76 rfl rfl ?_
    obtain ⟨o2, ho2, hf⟩ := f_bd hf
    refine j_callVi X oMo rfl rfl [] (c_X8_does X.2.2.2.2.2.2.2 ho2) (cwV 0 X.2.2.2.2.1 gX8_runScript_X8_does rfl rfl rfl (by decide +kernel) ⟨Nat.le_of_ble_eq_true rfl, Nat.le_of_ble_eq_true rfl⟩) rfl rfl (Nat.le_of_ble_eq_true rfl) dX8_runScript_77 ?_
    refine j_if_lt (tgt := 87) X dX8_runScript_80 (by decide) (fun c => ?_) (fun c => ?_)
    · replace hf := f_t c hf
      refine j_sub [0] rfl ?_
      exact t_X8_runScript_j87 X Y hf ih hk_kx97
    replace hf := f_f c hf
    refine j_iconst X (v := (nI 1)) (by decide) dX8_runScript_83 ?_
    refine j_goto (tgt := 88) X dX8_runScript_84 (by decide) ?_
    refine j_sub [0] rfl ?_
    exact t_X8_runScript_j88 X Y hf ih hk_kx97
set_option maxRecDepth 100000 in
set_option maxHeartbeats 4000000 in
theorem c_X8_runScript (hI : Inj 8 ad) {w : Wd} {out : Int32 × Wd} (hf : m_X8_runScript w = some out) : Met l yX8_runScript wsX8_runScript rmX8_runScript (va_Pc [.ref (ad 0)] (PW D (tR cI) 8 ad (cellR cI ad) w)) (QWi D 8 ad (cellR cI ad) out.1 out.2) 0 0 (AW 8 ad) := by
  refine mk_met (maxL := 2) (ret := (some .int)) RX8 hI (by decide) rfl rfl (Nat.le_of_ble_eq_true rfl) rfl rfl (fun p e s m args below meth c X Y => ?_)
  unfold m_X8_runScript at hf
  refine j_aload_n X 0 dX8_runScript_0 rfl rfl ?_
  refine j_iconst X (v := (nI 0)) (by decide) dX8_runScript_1 ?_
  obtain ⟨w1, ew1, hf⟩ := f_lt hf
  refine j_put (ref := "ProxyVersionsModel") (index := 150)  X oMo inX8_runScript_X8 tyX8_ok nmX8 rfl 10 (by decide) (List.mem_of_getElem? (i := 1) rfl) rfl rfl rfl (Nat.le_of_ble_eq_true rfl) rfl dX8_runScript_2 ew1 ?_
  refine j_aload_n X 0 dX8_runScript_5 rfl rfl ?_
  obtain ⟨o2, ho2, hf⟩ := f_bd hf
  refine j_callVv X oMo rfl rfl [] (c_X8_skips X.2.2.2.2.2.2.2 ho2) (cwV 0 X.2.2.2.2.1 gX8_runScript_X8_skips rfl rfl rfl (by decide +kernel) ⟨Nat.le_of_ble_eq_true rfl, Nat.le_of_ble_eq_true rfl⟩) rfl rfl (Nat.le_of_ble_eq_true rfl) dX8_runScript_6 ?_
  refine t_X8_runScript_L9 X Y ?_ ?_ _ _ hf
  · intro w3 hf
    refine j_bipush X (v := (-10 : Int32)) (by decide) dX8_runScript_27 ?_
    refine j_aload_n X 0 dX8_runScript_29 rfl rfl ?_
    refine j_get (ref := "ProxyVersionsModel") (index := 150) (v := .int (w3 0 10)) X oMo inX8_runScript_X8 rfl 10 (by decide) (List.mem_of_getElem? (i := 1) rfl) rfl rfl dX8_runScript_30 ?_
    refine j_isub X dX8_runScript_33 ?_
    exact j_iret X Y (f_p1 hf) (f_p2 hf) dX8_runScript_34
  · intro w4 hf
    refine j_aload_n X 0 dX8_runScript_42 rfl rfl ?_
    obtain ⟨o5, ho5, hf⟩ := f_bd hf
    refine j_callVv X oMo rfl rfl [] (c_X8_hold X.2.2.2.2.2.2.2 ho5) (cwV 0 X.2.2.2.2.1 gX8_runScript_X8_hold rfl rfl rfl (by decide +kernel) ⟨Nat.le_of_ble_eq_true rfl, Nat.le_of_ble_eq_true rfl⟩) rfl rfl (Nat.le_of_ble_eq_true rfl) dX8_runScript_43 ?_
    refine j_aload_n X 0 dX8_runScript_46 rfl rfl ?_
    refine j_iconst X (v := (nI 0)) (by decide) dX8_runScript_47 ?_
    obtain ⟨w6, ew6, hf⟩ := f_lt hf
    refine j_put (ref := "ProxyVersionsModel") (index := 150)  X oMo inX8_runScript_X8 tyX8_ok nmX8 rfl 10 (by decide) (List.mem_of_getElem? (i := 1) rfl) rfl rfl rfl (Nat.le_of_ble_eq_true rfl) rfl dX8_runScript_48 ew6 ?_
    refine j_iconst X (v := (nI 0)) (by decide) dX8_runScript_51 ?_
    refine j_istore_n (lv' := [(0, .ref (ad 0)), (1, .int (nI 0))]) X dX8_runScript_52 rfl (by decide) rfl ?_
    refine j_aload_n X 0 dX8_runScript_53 rfl rfl ?_
    obtain ⟨o7, ho7, hf⟩ := f_bd hf
    refine j_callVv X oMo rfl rfl [] (c_X8_skips X.2.2.2.2.2.2.2 ho7) (cwV 0 X.2.2.2.2.1 gX8_runScript_X8_skips rfl rfl rfl (by decide +kernel) ⟨Nat.le_of_ble_eq_true rfl, Nat.le_of_ble_eq_true rfl⟩) rfl rfl (Nat.le_of_ble_eq_true rfl) dX8_runScript_54 ?_
    refine t_X8_runScript_L57 X Y ?_ _ _ _ hf
    intro x1_8 w9 hf
    refine j_aload_n X 0 dX8_runScript_97 rfl rfl ?_
    refine j_iconst X (v := (nI 0)) (by decide) dX8_runScript_98 ?_
    obtain ⟨w10, ew10, hf⟩ := f_lt hf
    refine j_put (ref := "ProxyVersionsModel") (index := 147)  X oMo inX8_runScript_X8 tyX8_ok nmX8 rfl 5 (by decide) (List.mem_of_getElem? (i := 2) rfl) rfl rfl rfl (Nat.le_of_ble_eq_true rfl) rfl dX8_runScript_99 ew10 ?_
    refine j_aload_n X 0 dX8_runScript_102 rfl rfl ?_
    refine j_iload_n X 1 dX8_runScript_103 rfl rfl ?_
    obtain ⟨o11, ho11, hf⟩ := f_bd hf
    refine j_callVi X oMo rfl rfl [.int x1_8] (c_X8_ends X.2.2.2.2.2.2.2 ho11) (cwV 1 X.2.2.2.2.1 gX8_runScript_X8_ends rfl rfl rfl (by decide +kernel) ⟨Nat.le_of_ble_eq_true rfl, Nat.le_of_ble_eq_true rfl⟩) rfl rfl (Nat.le_of_ble_eq_true rfl) dX8_runScript_104 ?_
    exact j_iret X Y (f_p1 hf) (f_p2 hf) dX8_runScript_107
abbrev rmX8_undo : Room := { frames := 0, cells := 0, slots := 0, locals := 0 }
theorem inX8_undo_X8 : ∀ w ∈ wsX80, w ∈ wsX8_undo := fun _ h => List.mem_cons_of_mem _ (List.mem_append_right _ h)
set_option maxRecDepth 100000 in
set_option maxHeartbeats 4000000 in
theorem t_X8_undo_L22 (X : CX p rmX8_undo s m args c cX8_undo 2 RX8 wsX8_undo D (tR cI) 8 ad) (Y : RX meth (some .int)) {kx56 : Wd → Option (Int32 × Wd)} {out : Int32 × Wd} (hk_kx56 : ∀  (v : Wd), kx56 v = some out → WJ p l e rmX8_undo s m args below meth c (MQ below (QWi D 8 ad (cellR cI ad) out.1 out.2) args s 0 0 (AW 8 ad)) 2 D 8 ad (cellR cI ad) v 56 [(0, .ref (ad 0))] []) : ∀ (n : Nat) (x1 : Int32) (w : Wd), m_X8_undo_L22 kx56 n x1 w = some out → WJ p l e rmX8_undo s m args below meth c (MQ below (QWi D 8 ad (cellR cI ad) out.1 out.2) args s 0 0 (AW 8 ad)) 2 D 8 ad (cellR cI ad) w 22 [(0, .ref (ad 0)), (1, .int x1)] [] := by
  intro n
  induction n with
  | zero => intro x1 w hf; exact f_n hf
  | succ n ih =>
    intro x1 w hf
    rw [m_X8_undo_L22] at hf
    refine j_iload_n X 1 dX8_undo_22 rfl rfl ?_
    refine j_sipush X (v := (nI 1423)) (by decide) dX8_undo_23 ?_
    refine j_icmp_ge (tgt := 56) X dX8_undo_26 (by decide) (fun c => ?_) (fun c => ?_)
    · replace hf := f_t c hf
      refine j_sub [0] rfl ?_
      exact hk_kx56 _ hf
    replace hf := f_f c hf
    refine j_aload_n X 0 dX8_undo_29 rfl rfl ?_
    refine j_get (ref := "ProxyVersionsModel") (index := 7) (v := .ref (ad 1)) X oMo inX8_undo_X8 rfl 0 (by decide) (List.mem_of_getElem? (i := 2) rfl) rfl rfl dX8_undo_30 ?_
    refine j_iload_n X 1 dX8_undo_33 rfl rfl ?_
    refine j_aload_n X 0 dX8_undo_34 rfl rfl ?_
    refine j_get (ref := "ProxyVersionsModel") (index := 13) (v := .ref (ad 2)) X oMo inX8_undo_X8 rfl 1 (by decide) (List.mem_of_getElem? (i := 3) rfl) rfl rfl dX8_undo_35 ?_
    refine j_sipush X (v := (nI 1423)) (by decide) dX8_undo_38 ?_
    refine j_aload_n X 0 dX8_undo_41 rfl rfl ?_
    refine j_get (ref := "ProxyVersionsModel") (index := 31) (v := .int (w 0 3)) X oMo inX8_undo_X8 rfl 3 (by decide) (List.mem_of_getElem? (i := 1) rfl) rfl rfl dX8_undo_42 ?_
    refine j_imul X dX8_undo_45 ?_
    refine j_iload_n X 1 dX8_undo_46 rfl rfl ?_
    refine j_iadd X dX8_undo_47 ?_
    obtain ⟨hi1, hf⟩ := f_c hf
    refine j_iald X 0 rfl r2 hi1 dX8_undo_48 ?_
    obtain ⟨hi2, hf⟩ := f_c hf
    obtain ⟨w3, ew3, hf⟩ := f_lt hf
    refine j_iast X 0 rfl r1 hi2 dX8_undo_49 ew3 ?_
    refine j_iinc (v := (x1 + (nI 1))) (lv' := [(0, .ref (ad 0)), (1, .int (x1 + (nI 1)))]) X 1 dX8_undo_50 rfl rfl (by decide) rfl ?_
    refine j_goto (tgt := 22) X dX8_undo_53 (by decide) ?_
    exact ih _ _ hf
set_option maxRecDepth 100000 in
set_option maxHeartbeats 4000000 in
theorem c_X8_undo (hI : Inj 8 ad) {w : Wd} {out : Int32 × Wd} (hf : m_X8_undo w = some out) : Met l yX8_undo wsX8_undo rmX8_undo (va_Pc [.ref (ad 0)] (PW D (tR cI) 8 ad (cellR cI ad) w)) (QWi D 8 ad (cellR cI ad) out.1 out.2) 0 0 (AW 8 ad) := by
  refine mk_met (maxL := 2) (ret := (some .int)) RX8 hI (by decide) rfl rfl (Nat.le_of_ble_eq_true rfl) rfl rfl (fun p e s m args below meth c X Y => ?_)
  unfold m_X8_undo at hf
  refine j_aload_n X 0 dX8_undo_0 rfl rfl ?_
  refine j_get (ref := "ProxyVersionsModel") (index := 31) (v := .int (w 0 3)) X oMo inX8_undo_X8 rfl 3 (by decide) (List.mem_of_getElem? (i := 1) rfl) rfl rfl dX8_undo_1 ?_
  refine j_if_ne (tgt := 10) X dX8_undo_4 (by decide) (fun c => ?_) (fun c => ?_)
  · replace hf := f_t c hf
    refine j_aload_n X 0 dX8_undo_10 rfl rfl ?_
    refine j_dup X rfl dX8_undo_11 ?_
    refine j_get (ref := "ProxyVersionsModel") (index := 31) (v := .int (w 0 3)) X oMo inX8_undo_X8 rfl 3 (by decide) (List.mem_of_getElem? (i := 1) rfl) rfl rfl dX8_undo_12 ?_
    refine j_iconst X (v := (nI 1)) (by decide) dX8_undo_15 ?_
    refine j_isub X dX8_undo_16 ?_
    obtain ⟨w1, ew1, hf⟩ := f_lt hf
    refine j_put (ref := "ProxyVersionsModel") (index := 31)  X oMo inX8_undo_X8 tyX8_ok nmX8 rfl 3 (by decide) (List.mem_of_getElem? (i := 1) rfl) rfl rfl rfl (Nat.le_of_ble_eq_true rfl) rfl dX8_undo_17 ew1 ?_
    refine j_iconst X (v := (nI 0)) (by decide) dX8_undo_20 ?_
    refine j_istore_n (lv' := [(0, .ref (ad 0)), (1, .int (nI 0))]) X dX8_undo_21 rfl (by decide) rfl ?_
    refine t_X8_undo_L22 X Y ?_ _ _ _ hf
    intro w2 hf
    refine j_aload_n X 0 dX8_undo_56 rfl rfl ?_
    refine j_get (ref := "ProxyVersionsModel") (index := 31) (v := .int (w2 0 3)) X oMo inX8_undo_X8 rfl 3 (by decide) (List.mem_of_getElem? (i := 1) rfl) rfl rfl dX8_undo_57 ?_
    exact j_iret X Y (f_p1 hf) (f_p2 hf) dX8_undo_60
  replace hf := f_fn c hf
  refine j_bipush X (v := (-2 : Int32)) (by decide) dX8_undo_7 ?_
  exact j_iret X Y (f_p1 hf) (f_p2 hf) dX8_undo_9
end WALK17
