/-! ===== the bytecode does what the model says (printed by wip/whole/tools/gen.py) ===== -/
section WALK12
variable {p : Program} {l : Launch} {e : Env} {s : State} {m : MethodId} {args : Array Value} {below : List Frame} {meth : Method} {c : Code} {D : va_G} {cI cL cS : ClassId} {ad : Nat → Nat}
abbrev rmX0_findServed : Room := { frames := 1, cells := 0, slots := 0, locals := 26 }
theorem inX0_findServed_X0 : ∀ w ∈ wsX00, w ∈ wsX0_findServed := fun _ h => List.mem_cons_of_mem _ (List.mem_append_left _ (List.mem_append_right _ h))
set_option maxRecDepth 100000 in
set_option maxHeartbeats 4000000 in
theorem t_X0_findServed_L2 (X : CX p rmX0_findServed s m args c cX0_findServed 6 RX0 wsX0_findServed D (tC cI cL cS) 490 ad) (Y : RX meth none) {x1 : Int32} {kx31 : Wd → Option (Wd)} {out : Wd} (hk_kx31 : ∀  (v : Wd), kx31 v = some out → WJ p l e rmX0_findServed s m args below meth c (MQ below (QWv D 490 ad (cellC cI cL cS ad) out) args s 0 0 (AW 490 ad)) 6 D 490 ad (cellC cI cL cS ad) v 31 [(0, .ref (ad 473))] []) : ∀ (n : Nat) (x2 : Int32) (w : Wd), m_X0_findServed_L2 x1 kx31 n x2 w = some out → WJ p l e rmX0_findServed s m args below meth c (MQ below (QWv D 490 ad (cellC cI cL cS ad) out) args s 0 0 (AW 490 ad)) 6 D 490 ad (cellC cI cL cS ad) w 2 [(0, .ref (ad 473)), (1, .int x1), (2, .int x2)] [] := by
  intro n
  induction n with
  | zero => intro x2 w hf; exact f_n hf
  | succ n ih =>
    intro x2 w hf
    rw [m_X0_findServed_L2] at hf
    refine j_iload_n X 2 dX0_findServed_2 rfl rfl ?_
    refine j_iconst X (v := (4 : Int32)) rfl dX0_findServed_3 ?_
    refine j_icmp_ge (tgt := 31) X dX0_findServed_4 (by decide) (fun c => ?_) (fun c => ?_)
    · replace hf := f_t c hf
      refine j_sub [0] rfl ?_
      exact hk_kx31 _ hf
    replace hf := f_f c hf
    refine j_aload_n X 0 dX0_findServed_7 rfl rfl ?_
    refine j_get (ref := "ProxyVersions$Causality") (index := 9) (v := .ref (ad 474)) X oCa inX0_findServed_X0 rfl 1 (by decide) (List.mem_of_getElem? (i := 1) rfl) rfl rfl dX0_findServed_8 ?_
    refine j_iload_n X 2 dX0_findServed_11 rfl rfl ?_
    refine j_aload_n X 0 dX0_findServed_12 rfl rfl ?_
    refine j_get (ref := "ProxyVersions$Causality") (index := 18) (v := .ref (ad 50)) X oCa inX0_findServed_X0 rfl 0 (by decide) (List.mem_of_getElem? (i := 2) rfl) rfl rfl dX0_findServed_13 ?_
    refine j_iload_n X 1 dX0_findServed_16 rfl rfl ?_
    refine j_iload_n X 2 dX0_findServed_17 rfl rfl ?_
    obtain ⟨o1, ho1, hf⟩ := f_bd hf
    refine j_callVi X oS0 rfl rfl [.int x1, .int x2] (c_X5_knownOf X.2.2.2.2.2.2.2 ho1) (cwV 2 X.2.2.2.2.1 gX0_findServed_X5_knownOf rfl rfl rfl (by decide +kernel) ⟨Nat.le_of_ble_eq_true rfl, Nat.le_of_ble_eq_true rfl⟩) rfl rfl (Nat.le_of_ble_eq_true rfl) dX0_findServed_18 ?_
    obtain ⟨o2, ho2, hf⟩ := f_bd hf
    refine j_callSi X [.int o1] (c_X6_prefixOf X.2.2.2.2.2.2.2 ho2) (va_cwS 1 X.2.2.2.2.1 gX0_findServed_X6_prefixOf rfl rfl rfl (by decide +kernel) ⟨Nat.le_of_ble_eq_true rfl, Nat.le_of_ble_eq_true rfl⟩) rfl rfl (Nat.le_of_ble_eq_true rfl) dX0_findServed_21 ?_
    obtain ⟨hi3, hf⟩ := f_c hf
    obtain ⟨w4, ew4, hf⟩ := f_lt hf
    refine j_iast X 0 rfl i474 hi3 dX0_findServed_24 ew4 ?_
    refine j_iinc (v := (x2 + (1 : Int32))) (lv' := [(0, .ref (ad 473)), (1, .int x1), (2, .int (x2 + (1 : Int32)))]) X 2 dX0_findServed_25 rfl rfl (by decide) rfl ?_
    refine j_goto (tgt := 2) X dX0_findServed_28 (by decide) ?_
    exact ih _ _ hf
set_option maxRecDepth 100000 in
set_option maxHeartbeats 4000000 in
theorem t_X0_findServed_L59 (X : CX p rmX0_findServed s m args c cX0_findServed 6 RX0 wsX0_findServed D (tC cI cL cS) 490 ad) (Y : RX meth none) {x2 : Int32} {x3 : Int32} {x4 : Int32} {kx97 : Int32 → Wd → Option (Wd)} {out : Wd} (hk_kx97 : ∀ (y5 : Int32) (v : Wd), kx97 y5 v = some out → WJ p l e rmX0_findServed s m args below meth c (MQ below (QWv D 490 ad (cellC cI cL cS ad) out) args s 0 0 (AW 490 ad)) 6 D 490 ad (cellC cI cL cS ad) v 97 [(0, .ref (ad 473)), (2, .int x2), (3, .int x3), (4, .int x4), (5, .int y5)] []) : ∀ (n : Nat) (x5 : Int32) (w : Wd), m_X0_findServed_L59 x2 x3 x4 kx97 n x5 w = some out → WJ p l e rmX0_findServed s m args below meth c (MQ below (QWv D 490 ad (cellC cI cL cS ad) out) args s 0 0 (AW 490 ad)) 6 D 490 ad (cellC cI cL cS ad) w 59 [(0, .ref (ad 473)), (2, .int x2), (3, .int x3), (4, .int x4), (5, .int x5)] [] := by
  intro n
  induction n with
  | zero => intro x5 w hf; exact f_n hf
  | succ n ih =>
    intro x5 w hf
    rw [m_X0_findServed_L59] at hf
    refine j_iload X 4 dX0_findServed_59 rfl ?_
    refine j_aload_n X 0 dX0_findServed_61 rfl rfl ?_
    refine j_get (ref := "ProxyVersions$Causality") (index := 9) (v := .ref (ad 474)) X oCa inX0_findServed_X0 rfl 1 (by decide) (List.mem_of_getElem? (i := 1) rfl) rfl rfl dX0_findServed_62 ?_
    refine j_iload X 3 dX0_findServed_65 rfl ?_
    obtain ⟨hi1, hf⟩ := f_c hf
    refine j_iald X 0 rfl i474 hi1 dX0_findServed_67 ?_
    refine j_icmp_ge (tgt := 97) X dX0_findServed_68 (by decide) (fun c => ?_) (fun c => ?_)
    · replace hf := f_t c hf
      exact hk_kx97 _ _ hf
    replace hf := f_f c hf
    refine j_aload_n X 0 dX0_findServed_71 rfl rfl ?_
    refine j_get (ref := "ProxyVersions$Causality") (index := 18) (v := .ref (ad 50)) X oCa inX0_findServed_X0 rfl 0 (by decide) (List.mem_of_getElem? (i := 2) rfl) rfl rfl dX0_findServed_72 ?_
    refine j_iload X 3 dX0_findServed_75 rfl ?_
    refine j_iload X 4 dX0_findServed_77 rfl ?_
    refine j_iconst X (v := (1 : Int32)) rfl dX0_findServed_79 ?_
    refine j_iadd X dX0_findServed_80 ?_
    refine j_aload_n X 0 dX0_findServed_81 rfl rfl ?_
    refine j_get (ref := "ProxyVersions$Causality") (index := 9) (v := .ref (ad 474)) X oCa inX0_findServed_X0 rfl 1 (by decide) (List.mem_of_getElem? (i := 1) rfl) rfl rfl dX0_findServed_82 ?_
    obtain ⟨o2, ho2, hf⟩ := f_bd hf
    refine j_callVi X oS0 rfl rfl [.int x4, .int (x5 + (1 : Int32)), .ref (ad 474)] (c_X5_hasCausesIn X.2.2.2.2.2.2.2 ho2) (cwV 3 X.2.2.2.2.1 gX0_findServed_X5_hasCausesIn rfl rfl rfl (by decide +kernel) ⟨Nat.le_of_ble_eq_true rfl, Nat.le_of_ble_eq_true rfl⟩) rfl rfl (Nat.le_of_ble_eq_true rfl) dX0_findServed_85 ?_
    refine j_if_eq (tgt := 97) X dX0_findServed_88 (by decide) (fun c => ?_) (fun c => ?_)
    · replace hf := f_t c hf
      exact hk_kx97 _ _ hf
    replace hf := f_f c hf
    refine j_iinc (v := (x5 + (1 : Int32))) (lv' := [(0, .ref (ad 473)), (2, .int x2), (3, .int x3), (4, .int x4), (5, .int (x5 + (1 : Int32)))]) X 4 dX0_findServed_91 rfl rfl (by decide) rfl ?_
    refine j_goto (tgt := 59) X dX0_findServed_94 (by decide) ?_
    exact ih _ _ hf
set_option maxRecDepth 100000 in
set_option maxHeartbeats 4000000 in
theorem t_X0_findServed_j118 (X : CX p rmX0_findServed s m args c cX0_findServed 6 RX0 wsX0_findServed D (tC cI cL cS) 490 ad) (Y : RX meth none) {x3 : Int32} {x4 : Int32} {x5 : Int32} {s0 : Int32} {w : Wd} {kc : Int32 → Int32 → Wd → Option (Wd)} {kx134 : Int32 → Wd → Option (Wd)} {out : Wd} (hf : m_X0_findServed_j118 x3 x4 x5 s0 w kc kx134 = some out) (hk_kc : ∀ (y2 : Int32) (y4 : Int32) (v : Wd), kc y2 y4 v = some out → WJ p l e rmX0_findServed s m args below meth c (MQ below (QWv D 490 ad (cellC cI cL cS ad) out) args s 0 0 (AW 490 ad)) 6 D 490 ad (cellC cI cL cS ad) v 50 [(0, .ref (ad 473)), (2, .int y2), (3, .int x3), (4, .int y4)] []) (hk_kx134 : ∀ (y2 : Int32) (v : Wd), kx134 y2 v = some out → WJ p l e rmX0_findServed s m args below meth c (MQ below (QWv D 490 ad (cellC cI cL cS ad) out) args s 0 0 (AW 490 ad)) 6 D 490 ad (cellC cI cL cS ad) v 134 [(0, .ref (ad 473)), (2, .int y2), (3, .int x3)] []) : WJ p l e rmX0_findServed s m args below meth c (MQ below (QWv D 490 ad (cellC cI cL cS ad) out) args s 0 0 (AW 490 ad)) 6 D 490 ad (cellC cI cL cS ad) w 118 [(0, .ref (ad 473)), (3, .int x3), (4, .int x4), (5, .int x5)] [.int s0] := by
  unfold m_X0_findServed_j118 at hf
  refine j_istore_n (lv' := [(0, .ref (ad 473)), (2, .int s0), (3, .int x3), (4, .int x4), (5, .int x5)]) X dX0_findServed_118 rfl (by decide) rfl ?_
  refine j_aload_n X 0 dX0_findServed_119 rfl rfl ?_
  refine j_get (ref := "ProxyVersions$Causality") (index := 9) (v := .ref (ad 474)) X oCa inX0_findServed_X0 rfl 1 (by decide) (List.mem_of_getElem? (i := 1) rfl) rfl rfl dX0_findServed_120 ?_
  refine j_iload X 3 dX0_findServed_123 rfl ?_
  refine j_iload X 4 dX0_findServed_125 rfl ?_
  obtain ⟨hi1, hf⟩ := f_c hf
  obtain ⟨w2, ew2, hf⟩ := f_lt hf
  refine j_iast X 0 rfl i474 hi1 dX0_findServed_127 ew2 ?_
  refine j_iinc (v := (x4 + (1 : Int32))) (lv' := [(0, .ref (ad 473)), (2, .int s0), (3, .int x3), (4, .int (x4 + (1 : Int32))), (5, .int x5)]) X 3 dX0_findServed_128 rfl rfl (by decide) rfl ?_
  refine j_goto (tgt := 50) X dX0_findServed_131 (by decide) ?_
  refine j_sub [0, 1, 2, 3] rfl ?_
  exact hk_kc _ _ _ hf
set_option maxRecDepth 100000 in
set_option maxHeartbeats 4000000 in
theorem t_X0_findServed_j113 (X : CX p rmX0_findServed s m args c cX0_findServed 6 RX0 wsX0_findServed D (tC cI cL cS) 490 ad) (Y : RX meth none) {x3 : Int32} {x4 : Int32} {x5 : Int32} {w : Wd} {kc : Int32 → Int32 → Wd → Option (Wd)} {kx134 : Int32 → Wd → Option (Wd)} {out : Wd} (hf : m_X0_findServed_j113 x3 x4 x5 w kc kx134 = some out) (hk_kc : ∀ (y2 : Int32) (y4 : Int32) (v : Wd), kc y2 y4 v = some out → WJ p l e rmX0_findServed s m args below meth c (MQ below (QWv D 490 ad (cellC cI cL cS ad) out) args s 0 0 (AW 490 ad)) 6 D 490 ad (cellC cI cL cS ad) v 50 [(0, .ref (ad 473)), (2, .int y2), (3, .int x3), (4, .int y4)] []) (hk_kx134 : ∀ (y2 : Int32) (v : Wd), kx134 y2 v = some out → WJ p l e rmX0_findServed s m args below meth c (MQ below (QWv D 490 ad (cellC cI cL cS ad) out) args s 0 0 (AW 490 ad)) 6 D 490 ad (cellC cI cL cS ad) v 134 [(0, .ref (ad 473)), (2, .int y2), (3, .int x3)] []) : WJ p l e rmX0_findServed s m args below meth c (MQ below (QWv D 490 ad (cellC cI cL cS ad) out) args s 0 0 (AW 490 ad)) 6 D 490 ad (cellC cI cL cS ad) w 113 [(0, .ref (ad 473)), (3, .int x3), (4, .int x4), (5, .int x5)] [] := by
  unfold m_X0_findServed_j113 at hf
  refine j_iconst X (v := (1 : Int32)) rfl dX0_findServed_113 ?_
  refine j_goto (tgt := 118) X dX0_findServed_114 (by decide) ?_
  exact t_X0_findServed_j118 X Y hf hk_kc hk_kx134
set_option maxRecDepth 100000 in
set_option maxHeartbeats 4000000 in
theorem t_X0_findServed_j97 (X : CX p rmX0_findServed s m args c cX0_findServed 6 RX0 wsX0_findServed D (tC cI cL cS) 490 ad) (Y : RX meth none) {x2 : Int32} {x3 : Int32} {x4 : Int32} {x5 : Int32} {w : Wd} {kc : Int32 → Int32 → Wd → Option (Wd)} {kx134 : Int32 → Wd → Option (Wd)} {out : Wd} (hf : m_X0_findServed_j97 x2 x3 x4 x5 w kc kx134 = some out) (hk_kc : ∀ (y2 : Int32) (y4 : Int32) (v : Wd), kc y2 y4 v = some out → WJ p l e rmX0_findServed s m args below meth c (MQ below (QWv D 490 ad (cellC cI cL cS ad) out) args s 0 0 (AW 490 ad)) 6 D 490 ad (cellC cI cL cS ad) v 50 [(0, .ref (ad 473)), (2, .int y2), (3, .int x3), (4, .int y4)] []) (hk_kx134 : ∀ (y2 : Int32) (v : Wd), kx134 y2 v = some out → WJ p l e rmX0_findServed s m args below meth c (MQ below (QWv D 490 ad (cellC cI cL cS ad) out) args s 0 0 (AW 490 ad)) 6 D 490 ad (cellC cI cL cS ad) v 134 [(0, .ref (ad 473)), (2, .int y2), (3, .int x3)] []) : WJ p l e rmX0_findServed s m args below meth c (MQ below (QWv D 490 ad (cellC cI cL cS ad) out) args s 0 0 (AW 490 ad)) 6 D 490 ad (cellC cI cL cS ad) w 97 [(0, .ref (ad 473)), (2, .int x2), (3, .int x3), (4, .int x4), (5, .int x5)] [] := by
  unfold m_X0_findServed_j97 at hf
  refine j_iload_n X 1 dX0_findServed_97 rfl rfl ?_
  refine j_if_ne (tgt := 113) X dX0_findServed_98 (by decide) (fun c => ?_) (fun c => ?_)
  · replace hf := f_t c hf
    refine j_sub [0, 2, 3, 4] rfl ?_
    exact t_X0_findServed_j113 X Y hf hk_kc hk_kx134
  replace hf := f_fn c hf
  refine j_iload X 4 dX0_findServed_101 rfl ?_
  refine j_aload_n X 0 dX0_findServed_103 rfl rfl ?_
  refine j_get (ref := "ProxyVersions$Causality") (index := 9) (v := .ref (ad 474)) X oCa inX0_findServed_X0 rfl 1 (by decide) (List.mem_of_getElem? (i := 1) rfl) rfl rfl dX0_findServed_104 ?_
  refine j_iload X 3 dX0_findServed_107 rfl ?_
  obtain ⟨hi1, hf⟩ := f_c hf
  refine j_iald X 0 rfl i474 hi1 dX0_findServed_109 ?_
  refine j_icmp_ge (tgt := 117) X dX0_findServed_110 (by decide) (fun c => ?_) (fun c => ?_)
  · replace hf := f_t c hf
    refine j_iconst X (v := (0 : Int32)) rfl dX0_findServed_117 ?_
    refine j_sub [0, 2, 3, 4] rfl ?_
    exact t_X0_findServed_j118 X Y hf hk_kc hk_kx134
  replace hf := f_f c hf
  refine j_sub [0, 2, 3, 4] rfl ?_
  exact t_X0_findServed_j113 X Y hf hk_kc hk_kx134
set_option maxRecDepth 100000 in
set_option maxHeartbeats 4000000 in
theorem t_X0_findServed_L50 (X : CX p rmX0_findServed s m args c cX0_findServed 6 RX0 wsX0_findServed D (tC cI cL cS) 490 ad) (Y : RX meth none) {x3 : Int32} {kx134 : Int32 → Wd → Option (Wd)} {out : Wd} (hk_kx134 : ∀ (y2 : Int32) (v : Wd), kx134 y2 v = some out → WJ p l e rmX0_findServed s m args below meth c (MQ below (QWv D 490 ad (cellC cI cL cS ad) out) args s 0 0 (AW 490 ad)) 6 D 490 ad (cellC cI cL cS ad) v 134 [(0, .ref (ad 473)), (2, .int y2), (3, .int x3)] []) : ∀ (n : Nat) (x2 : Int32) (x4 : Int32) (w : Wd), m_X0_findServed_L50 x3 kx134 n x2 x4 w = some out → WJ p l e rmX0_findServed s m args below meth c (MQ below (QWv D 490 ad (cellC cI cL cS ad) out) args s 0 0 (AW 490 ad)) 6 D 490 ad (cellC cI cL cS ad) w 50 [(0, .ref (ad 473)), (2, .int x2), (3, .int x3), (4, .int x4)] [] := by
  intro n
  induction n with
  | zero => intro x2 x4 w hf; exact f_n hf
  | succ n ih =>
    intro x2 x4 w hf
    rw [m_X0_findServed_L50] at hf
    refine j_iload X 3 dX0_findServed_50 rfl ?_
    refine j_iconst X (v := (4 : Int32)) rfl dX0_findServed_52 ?_
    refine j_icmp_ge (tgt := 134) X dX0_findServed_53 (by decide) (fun c => ?_) (fun c => ?_)
    · replace hf := f_t c hf
      refine j_sub [0, 1, 2] rfl ?_
      exact hk_kx134 _ _ hf
    replace hf := f_f c hf
    refine j_iconst X (v := (0 : Int32)) rfl dX0_findServed_56 ?_
    refine j_istore (lv' := [(0, .ref (ad 473)), (2, .int x2), (3, .int x3), (4, .int x4), (5, .int (0 : Int32))]) X dX0_findServed_57 (by decide) rfl ?_
    refine t_X0_findServed_L59 X Y ?_ _ _ _ hf
    intro x5_1 w2 hf
    exact t_X0_findServed_j97 X Y hf ih hk_kx134
set_option maxRecDepth 100000 in
set_option maxHeartbeats 4000000 in
theorem t_X0_findServed_L35 (X : CX p rmX0_findServed s m args c cX0_findServed 6 RX0 wsX0_findServed D (tC cI cL cS) 490 ad) (Y : RX meth none) {out : Wd} : ∀ (n : Nat) (x2 : Int32) (x3 : Int32) (w : Wd), m_X0_findServed_L35 n x2 x3 w = some out → WJ p l e rmX0_findServed s m args below meth c (MQ below (QWv D 490 ad (cellC cI cL cS ad) out) args s 0 0 (AW 490 ad)) 6 D 490 ad (cellC cI cL cS ad) w 35 [(0, .ref (ad 473)), (2, .int x2), (3, .int x3)] [] := by
  intro n
  induction n with
  | zero => intro x2 x3 w hf; exact f_n hf
  | succ n ih =>
    intro x2 x3 w hf
    rw [m_X0_findServed_L35] at hf
    refine j_iload_n X 2 dX0_findServed_35 rfl rfl ?_
    refine j_bipush X (v := (96 : Int32)) (by decide) dX0_findServed_36 ?_
    refine j_icmp_gt (tgt := 140) X dX0_findServed_38 (by decide) (fun c => ?_) (fun c => ?_)
    · replace hf := f_t c hf
      exact j_vret X Y (f_s hf) dX0_findServed_140
    replace hf := f_f c hf
    refine j_iload_n X 1 dX0_findServed_41 rfl rfl ?_
    refine j_if_eq (tgt := 140) X dX0_findServed_42 (by decide) (fun c => ?_) (fun c => ?_)
    · replace hf := f_t c hf
      exact j_vret X Y (f_s hf) dX0_findServed_140
    replace hf := f_f c hf
    refine j_iconst X (v := (0 : Int32)) rfl dX0_findServed_45 ?_
    refine j_istore_n (lv' := [(0, .ref (ad 473)), (2, .int (0 : Int32)), (3, .int x3)]) X dX0_findServed_46 rfl (by decide) rfl ?_
    refine j_iconst X (v := (0 : Int32)) rfl dX0_findServed_47 ?_
    refine j_istore (lv' := [(0, .ref (ad 473)), (2, .int (0 : Int32)), (3, .int x3), (4, .int (0 : Int32))]) X dX0_findServed_48 (by decide) rfl ?_
    refine t_X0_findServed_L50 X Y ?_ _ _ _ _ hf
    intro x2_1 w2 hf
    refine j_iinc (v := (x3 + (1 : Int32))) (lv' := [(0, .ref (ad 473)), (2, .int x2_1), (3, .int (x3 + (1 : Int32)))]) X 2 dX0_findServed_134 rfl rfl (by decide) rfl ?_
    refine j_goto (tgt := 35) X dX0_findServed_137 (by decide) ?_
    exact ih _ _ _ hf
set_option maxRecDepth 100000 in
set_option maxHeartbeats 4000000 in
theorem c_X0_findServed (hI : Inj 490 ad) {x1 : Int32} {w : Wd} {out : Wd} (hf : m_X0_findServed x1 w = some out) : Met l yX0_findServed wsX0_findServed rmX0_findServed (va_Pc [.ref (ad 473), .int x1] (PW D (tC cI cL cS) 490 ad (cellC cI cL cS ad) w)) (QWv D 490 ad (cellC cI cL cS ad) out) 0 0 (AW 490 ad) := by
  refine mk_met (maxL := 6) (ret := none) RX0 hI (by decide) rfl rfl (Nat.le_of_ble_eq_true rfl) rfl rfl (fun p e s m args below meth c X Y => ?_)
  unfold m_X0_findServed at hf
  refine j_iconst X (v := (0 : Int32)) rfl dX0_findServed_0 ?_
  refine j_istore_n (lv' := [(0, .ref (ad 473)), (1, .int x1), (2, .int (0 : Int32))]) X dX0_findServed_1 rfl (by decide) rfl ?_
  refine t_X0_findServed_L2 X Y ?_ _ _ _ hf
  intro w1 hf
  refine j_iconst X (v := (1 : Int32)) rfl dX0_findServed_31 ?_
  refine j_istore_n (lv' := [(0, .ref (ad 473)), (1, .int x1), (2, .int (1 : Int32))]) X dX0_findServed_32 rfl (by decide) rfl ?_
  refine j_iconst X (v := (0 : Int32)) rfl dX0_findServed_33 ?_
  refine j_istore_n (lv' := [(0, .ref (ad 473)), (1, .int x1), (2, .int (1 : Int32)), (3, .int (0 : Int32))]) X dX0_findServed_34 rfl (by decide) rfl ?_
  refine j_sub [0, 2, 3] rfl ?_
  refine t_X0_findServed_L35 X Y _ _ _ _ hf
abbrev rmX0_prefixFound : Room := { frames := 0, cells := 0, slots := 0, locals := 0 }
theorem inX0_prefixFound_X0 : ∀ w ∈ wsX00, w ∈ wsX0_prefixFound := fun _ h => List.mem_cons_of_mem _ (List.mem_append_right _ h)
set_option maxRecDepth 100000 in
set_option maxHeartbeats 4000000 in
theorem c_X0_prefixFound (hI : Inj 490 ad) {x1 : Int32} {w : Wd} {out : Int32} (hf : m_X0_prefixFound x1 w = some out) : Met l yX0_prefixFound wsX0_prefixFound rmX0_prefixFound (va_Pc [.ref (ad 473), .int x1] (PW D (tC cI cL cS) 490 ad (cellC cI cL cS ad) w)) (QWi D 490 ad (cellC cI cL cS ad) out w) 0 0 (AW 490 ad) := by
  refine mk_met (maxL := 2) (ret := (some .int)) RX0 hI (by decide) rfl rfl (Nat.le_of_ble_eq_true rfl) rfl rfl (fun p e s m args below meth c X Y => ?_)
  unfold m_X0_prefixFound at hf
  refine j_iload_n X 1 dX0_prefixFound_0 rfl rfl ?_
  refine j_if_lt (tgt := 22) X dX0_prefixFound_1 (by decide) (fun c => ?_) (fun c => ?_)
  · replace hf := f_t c hf
    refine j_iconst X (v := (0 : Int32)) rfl dX0_prefixFound_22 ?_
    exact j_iret X Y (f_s hf) rfl dX0_prefixFound_23
  replace hf := f_f c hf
  refine j_iload_n X 1 dX0_prefixFound_4 rfl rfl ?_
  refine j_aload_n X 0 dX0_prefixFound_5 rfl rfl ?_
  refine j_get (ref := "ProxyVersions$Causality") (index := 9) (v := .ref (ad 474)) X oCa inX0_prefixFound_X0 rfl 1 (by decide) (List.mem_of_getElem? (i := 1) rfl) rfl rfl dX0_prefixFound_6 ?_
  refine j_alen X 0 rfl i474 dX0_prefixFound_9 ?_
  refine j_icmp_ge (tgt := 22) X dX0_prefixFound_10 (by decide) (fun c => ?_) (fun c => ?_)
  · replace hf := f_t c hf
    refine j_iconst X (v := (0 : Int32)) rfl dX0_prefixFound_22 ?_
    exact j_iret X Y (f_s hf) rfl dX0_prefixFound_23
  replace hf := f_f c hf
  refine j_aload_n X 0 dX0_prefixFound_13 rfl rfl ?_
  refine j_get (ref := "ProxyVersions$Causality") (index := 9) (v := .ref (ad 474)) X oCa inX0_prefixFound_X0 rfl 1 (by decide) (List.mem_of_getElem? (i := 1) rfl) rfl rfl dX0_prefixFound_14 ?_
  refine j_iload_n X 1 dX0_prefixFound_17 rfl rfl ?_
  obtain ⟨hi1, hf⟩ := f_c hf
  refine j_iald X 0 rfl i474 hi1 dX0_prefixFound_18 ?_
  refine j_goto (tgt := 23) X dX0_prefixFound_19 (by decide) ?_
  exact j_iret X Y (f_s hf) rfl dX0_prefixFound_23
abbrev rmX0_servedOf : Room := { frames := 2, cells := 0, slots := 0, locals := 51 }
set_option maxRecDepth 100000 in
set_option maxHeartbeats 4000000 in
theorem c_X0_servedOf (hI : Inj 490 ad) {x1 : Int32} {x2 : Int32} {w : Wd} {out : Int32 × Wd} (hf : m_X0_servedOf x1 x2 w = some out) : Met l yX0_servedOf wsX0_servedOf rmX0_servedOf (va_Pc [.ref (ad 473), .int x1, .int x2] (PW D (tC cI cL cS) 490 ad (cellC cI cL cS ad) w)) (QWi D 490 ad (cellC cI cL cS ad) out.1 out.2) 0 0 (AW 490 ad) := by
  refine mk_met (maxL := 3) (ret := (some .int)) RX0 hI (by decide) rfl rfl (Nat.le_of_ble_eq_true rfl) rfl rfl (fun p e s m args below meth c X Y => ?_)
  unfold m_X0_servedOf at hf
  refine j_aload_n X 0 dX0_servedOf_0 rfl rfl ?_
  refine j_iload_n X 1 dX0_servedOf_1 rfl rfl ?_
  obtain ⟨o1, ho1, hf⟩ := f_bd hf
  refine j_callVv X oCa rfl rfl [.int x1] (c_X0_findServed X.2.2.2.2.2.2.2 ho1) (cwV 1 X.2.2.2.2.1 gX0_servedOf_X0_findServed rfl rfl rfl (by decide +kernel) ⟨Nat.le_of_ble_eq_true rfl, Nat.le_of_ble_eq_true rfl⟩) rfl rfl (Nat.le_of_ble_eq_true rfl) dX0_servedOf_2 ?_
  refine j_aload_n X 0 dX0_servedOf_5 rfl rfl ?_
  refine j_iload_n X 2 dX0_servedOf_6 rfl rfl ?_
  obtain ⟨o2, ho2, hf⟩ := f_bd hf
  refine j_callVi X oCa rfl rfl [.int x2] (c_X0_prefixFound X.2.2.2.2.2.2.2 ho2) (cwV 1 X.2.2.2.2.1 gX0_servedOf_X0_prefixFound rfl rfl rfl (by decide +kernel) ⟨Nat.le_of_ble_eq_true rfl, Nat.le_of_ble_eq_true rfl⟩) rfl rfl (Nat.le_of_ble_eq_true rfl) dX0_servedOf_7 ?_
  exact j_iret X Y (congrArg Prod.fst (f_s hf)) (congrArg Prod.snd (f_s hf)) dX0_servedOf_10
abbrev rmX0_servedCount : Room := { frames := 2, cells := 0, slots := 0, locals := 51 }
theorem inX0_servedCount_X0 : ∀ w ∈ wsX00, w ∈ wsX0_servedCount := fun _ h => List.mem_cons_of_mem _ (List.mem_append_left _ (List.mem_append_right _ h))
set_option maxRecDepth 100000 in
set_option maxHeartbeats 4000000 in
theorem t_X0_servedCount_L9 (X : CX p rmX0_servedCount s m args c cX0_servedCount 4 RX0 wsX0_servedCount D (tC cI cL cS) 490 ad) (Y : RX meth (some .int)) {out : Int32 × Wd} : ∀ (n : Nat) (x2 : Int32) (x3 : Int32) (w : Wd), m_X0_servedCount_L9 n x2 x3 w = some out → WJ p l e rmX0_servedCount s m args below meth c (MQ below (QWi D 490 ad (cellC cI cL cS ad) out.1 out.2) args s 0 0 (AW 490 ad)) 4 D 490 ad (cellC cI cL cS ad) w 9 [(0, .ref (ad 473)), (2, .int x2), (3, .int x3)] [] := by
  intro n
  induction n with
  | zero => intro x2 x3 w hf; exact f_n hf
  | succ n ih =>
    intro x2 x3 w hf
    rw [m_X0_servedCount_L9] at hf
    refine j_iload_n X 2 dX0_servedCount_9 rfl rfl ?_
    refine j_iconst X (v := (4 : Int32)) rfl dX0_servedCount_10 ?_
    refine j_icmp_ge (tgt := 29) X dX0_servedCount_11 (by decide) (fun c => ?_) (fun c => ?_)
    · replace hf := f_t c hf
      refine j_iload_n X 1 dX0_servedCount_29 rfl rfl ?_
      exact j_iret X Y (congrArg Prod.fst (f_s hf)) (congrArg Prod.snd (f_s hf)) dX0_servedCount_30
    replace hf := f_f c hf
    refine j_iload_n X 1 dX0_servedCount_14 rfl rfl ?_
    refine j_aload_n X 0 dX0_servedCount_15 rfl rfl ?_
    refine j_get (ref := "ProxyVersions$Causality") (index := 9) (v := .ref (ad 474)) X oCa inX0_servedCount_X0 rfl 1 (by decide) (List.mem_of_getElem? (i := 1) rfl) rfl rfl dX0_servedCount_16 ?_
    refine j_iload_n X 2 dX0_servedCount_19 rfl rfl ?_
    obtain ⟨hi1, hf⟩ := f_c hf
    refine j_iald X 0 rfl i474 hi1 dX0_servedCount_20 ?_
    refine j_iadd X dX0_servedCount_21 ?_
    obtain ⟨x2_2, ex2_2, hf⟩ := f_lt hf
    refine j_top ex2_2 ?_
    refine j_istore_n (lv' := [(0, .ref (ad 473)), (2, .int x2_2), (3, .int x3)]) X dX0_servedCount_22 rfl (by decide) rfl ?_
    refine j_iinc (v := (x3 + (1 : Int32))) (lv' := [(0, .ref (ad 473)), (2, .int x2_2), (3, .int (x3 + (1 : Int32)))]) X 2 dX0_servedCount_23 rfl rfl (by decide) rfl ?_
    refine j_goto (tgt := 9) X dX0_servedCount_26 (by decide) ?_
    exact ih _ _ _ hf
set_option maxRecDepth 100000 in
set_option maxHeartbeats 4000000 in
theorem c_X0_servedCount (hI : Inj 490 ad) {x1 : Int32} {w : Wd} {out : Int32 × Wd} (hf : m_X0_servedCount x1 w = some out) : Met l yX0_servedCount wsX0_servedCount rmX0_servedCount (va_Pc [.ref (ad 473), .int x1] (PW D (tC cI cL cS) 490 ad (cellC cI cL cS ad) w)) (QWi D 490 ad (cellC cI cL cS ad) out.1 out.2) 0 0 (AW 490 ad) := by
  refine mk_met (maxL := 4) (ret := (some .int)) RX0 hI (by decide) rfl rfl (Nat.le_of_ble_eq_true rfl) rfl rfl (fun p e s m args below meth c X Y => ?_)
  unfold m_X0_servedCount at hf
  refine j_aload_n X 0 dX0_servedCount_0 rfl rfl ?_
  refine j_iload_n X 1 dX0_servedCount_1 rfl rfl ?_
  obtain ⟨o1, ho1, hf⟩ := f_bd hf
  refine j_callVv X oCa rfl rfl [.int x1] (c_X0_findServed X.2.2.2.2.2.2.2 ho1) (cwV 1 X.2.2.2.2.1 gX0_servedCount_X0_findServed rfl rfl rfl (by decide +kernel) ⟨Nat.le_of_ble_eq_true rfl, Nat.le_of_ble_eq_true rfl⟩) rfl rfl (Nat.le_of_ble_eq_true rfl) dX0_servedCount_2 ?_
  refine j_iconst X (v := (0 : Int32)) rfl dX0_servedCount_5 ?_
  refine j_istore_n (lv' := [(0, .ref (ad 473)), (1, .int x1), (2, .int (0 : Int32))]) X dX0_servedCount_6 rfl (by decide) rfl ?_
  refine j_iconst X (v := (0 : Int32)) rfl dX0_servedCount_7 ?_
  refine j_istore_n (lv' := [(0, .ref (ad 473)), (1, .int x1), (2, .int (0 : Int32)), (3, .int (0 : Int32))]) X dX0_servedCount_8 rfl (by decide) rfl ?_
  refine j_sub [0, 2, 3] rfl ?_
  refine t_X0_servedCount_L9 X Y _ _ _ _ hf
abbrev rmX0_addCausesOf : Room := { frames := 1, cells := 0, slots := 0, locals := 24 }
theorem inX0_addCausesOf_X0 : ∀ w ∈ wsX00, w ∈ wsX0_addCausesOf := fun _ h => List.mem_cons_of_mem _ (List.mem_append_left _ (List.mem_append_right _ h))
set_option maxRecDepth 100000 in
set_option maxHeartbeats 4000000 in
theorem t_X0_addCausesOf_j81 (X : CX p rmX0_addCausesOf s m args c cX0_addCausesOf 7 RX0 wsX0_addCausesOf D (tC cI cL cS) 490 ad) (Y : RX meth (some .boolean)) {x1 : Int32} {x2 : Int32} {x3 : Int32} {x4 : Int32} {x5 : Int32} {w : Wd} {kc : Int32 → Int32 → Wd → Option (Int32 × Wd)} {kx87 : Int32 → Wd → Option (Int32 × Wd)} {out : Int32 × Wd} (hf : m_X0_addCausesOf_j81 x1 x2 x3 x4 x5 w kc kx87 = some out) (hk_kc : ∀ (y2 : Int32) (y5 : Int32) (v : Wd), kc y2 y5 v = some out → WJ p l e rmX0_addCausesOf s m args below meth c (MQ below (QWi D 490 ad (cellC cI cL cS ad) out.1 out.2) args s 0 0 (AW 490 ad)) 7 D 490 ad (cellC cI cL cS ad) v 38 [(0, .ref (ad 473)), (1, .int x1), (2, .int y2), (3, .int x3), (4, .int x4), (5, .int y5)] []) (hk_kx87 : ∀ (y2 : Int32) (v : Wd), kx87 y2 v = some out → WJ p l e rmX0_addCausesOf s m args below meth c (MQ below (QWi D 490 ad (cellC cI cL cS ad) out.1 out.2) args s 0 0 (AW 490 ad)) 7 D 490 ad (cellC cI cL cS ad) v 87 [(0, .ref (ad 473)), (1, .int x1), (2, .int y2), (3, .int x3), (4, .int x4)] []) : WJ p l e rmX0_addCausesOf s m args below meth c (MQ below (QWi D 490 ad (cellC cI cL cS ad) out.1 out.2) args s 0 0 (AW 490 ad)) 7 D 490 ad (cellC cI cL cS ad) w 81 [(0, .ref (ad 473)), (1, .int x1), (2, .int x2), (3, .int x3), (4, .int x4), (5, .int x5)] [] := by
  unfold m_X0_addCausesOf_j81 at hf
  refine j_iinc (v := (x5 + (1 : Int32))) (lv' := [(0, .ref (ad 473)), (1, .int x1), (2, .int x2), (3, .int x3), (4, .int x4), (5, .int (x5 + (1 : Int32)))]) X 5 dX0_addCausesOf_81 rfl rfl (by decide) rfl ?_
  refine j_goto (tgt := 38) X dX0_addCausesOf_84 (by decide) ?_
  exact hk_kc _ _ _ hf
set_option maxRecDepth 100000 in
set_option maxHeartbeats 4000000 in
theorem t_X0_addCausesOf_L38 (X : CX p rmX0_addCausesOf s m args c cX0_addCausesOf 7 RX0 wsX0_addCausesOf D (tC cI cL cS) 490 ad) (Y : RX meth (some .boolean)) {x1 : Int32} {x3 : Int32} {x4 : Int32} {kx87 : Int32 → Wd → Option (Int32 × Wd)} {out : Int32 × Wd} (hk_kx87 : ∀ (y2 : Int32) (v : Wd), kx87 y2 v = some out → WJ p l e rmX0_addCausesOf s m args below meth c (MQ below (QWi D 490 ad (cellC cI cL cS ad) out.1 out.2) args s 0 0 (AW 490 ad)) 7 D 490 ad (cellC cI cL cS ad) v 87 [(0, .ref (ad 473)), (1, .int x1), (2, .int y2), (3, .int x3), (4, .int x4)] []) : ∀ (n : Nat) (x2 : Int32) (x5 : Int32) (w : Wd), m_X0_addCausesOf_L38 x1 x3 x4 kx87 n x2 x5 w = some out → WJ p l e rmX0_addCausesOf s m args below meth c (MQ below (QWi D 490 ad (cellC cI cL cS ad) out.1 out.2) args s 0 0 (AW 490 ad)) 7 D 490 ad (cellC cI cL cS ad) w 38 [(0, .ref (ad 473)), (1, .int x1), (2, .int x2), (3, .int x3), (4, .int x4), (5, .int x5)] [] := by
  intro n
  induction n with
  | zero => intro x2 x5 w hf; exact f_n hf
  | succ n ih =>
    intro x2 x5 w hf
    rw [m_X0_addCausesOf_L38] at hf
    refine j_iload X 5 dX0_addCausesOf_38 rfl ?_
    refine j_iconst X (v := (4 : Int32)) rfl dX0_addCausesOf_40 ?_
    refine j_icmp_ge (tgt := 87) X dX0_addCausesOf_41 (by decide) (fun c => ?_) (fun c => ?_)
    · replace hf := f_t c hf
      refine j_sub [0, 1, 2, 3, 4] rfl ?_
      exact hk_kx87 _ _ hf
    replace hf := f_f c hf
    refine j_aload_n X 0 dX0_addCausesOf_44 rfl rfl ?_
    refine j_get (ref := "ProxyVersions$Causality") (index := 18) (v := .ref (ad 50)) X oCa inX0_addCausesOf_X0 rfl 0 (by decide) (List.mem_of_getElem? (i := 2) rfl) rfl rfl dX0_addCausesOf_45 ?_
    refine j_iload_n X 1 dX0_addCausesOf_48 rfl rfl ?_
    refine j_iload X 4 dX0_addCausesOf_49 rfl ?_
    refine j_iload X 5 dX0_addCausesOf_51 rfl ?_
    obtain ⟨o1, ho1, hf⟩ := f_bd hf
    refine j_callVi X oS0 rfl rfl [.int x1, .int x4, .int x5] (c_X5_causeOf X.2.2.2.2.2.2.2 ho1) (cwV 3 X.2.2.2.2.1 gX0_addCausesOf_X5_causeOf rfl rfl rfl (by decide +kernel) ⟨Nat.le_of_ble_eq_true rfl, Nat.le_of_ble_eq_true rfl⟩) rfl rfl (Nat.le_of_ble_eq_true rfl) dX0_addCausesOf_53 ?_
    refine j_istore (lv' := [(0, .ref (ad 473)), (1, .int x1), (2, .int x2), (3, .int x3), (4, .int x4), (5, .int x5), (6, .int o1)]) X dX0_addCausesOf_56 (by decide) rfl ?_
    refine j_iload X 6 dX0_addCausesOf_58 rfl ?_
    refine j_aload_n X 0 dX0_addCausesOf_60 rfl rfl ?_
    refine j_get (ref := "ProxyVersions$Causality") (index := 15) (v := .ref (ad 475)) X oCa inX0_addCausesOf_X0 rfl 2 (by decide) (List.mem_of_getElem? (i := 1) rfl) rfl rfl dX0_addCausesOf_61 ?_
    refine j_iload X 5 dX0_addCausesOf_64 rfl ?_
    obtain ⟨hi2, hf⟩ := f_c hf
    refine j_iald X 0 rfl i475 hi2 dX0_addCausesOf_66 ?_
    refine j_icmp_le (tgt := 81) X dX0_addCausesOf_67 (by decide) (fun c => ?_) (fun c => ?_)
    · replace hf := f_t c hf
      refine j_sub [0, 1, 2, 3, 4, 5] rfl ?_
      exact t_X0_addCausesOf_j81 X Y hf ih hk_kx87
    replace hf := f_f c hf
    refine j_aload_n X 0 dX0_addCausesOf_70 rfl rfl ?_
    refine j_get (ref := "ProxyVersions$Causality") (index := 15) (v := .ref (ad 475)) X oCa inX0_addCausesOf_X0 rfl 2 (by decide) (List.mem_of_getElem? (i := 1) rfl) rfl rfl dX0_addCausesOf_71 ?_
    refine j_iload X 5 dX0_addCausesOf_74 rfl ?_
    refine j_iload X 6 dX0_addCausesOf_76 rfl ?_
    obtain ⟨hi3, hf⟩ := f_c hf
    obtain ⟨w4, ew4, hf⟩ := f_lt hf
    refine j_iast X 0 rfl i475 hi3 dX0_addCausesOf_78 ew4 ?_
    refine j_iconst X (v := (1 : Int32)) rfl dX0_addCausesOf_79 ?_
    refine j_istore_n (lv' := [(0, .ref (ad 473)), (1, .int x1), (2, .int (1 : Int32)), (3, .int x3), (4, .int x4), (5, .int x5), (6, .int o1)]) X dX0_addCausesOf_80 rfl (by decide) rfl ?_
    refine j_sub [0, 1, 2, 3, 4, 5] rfl ?_
    exact t_X0_addCausesOf_j81 X Y hf ih hk_kx87
set_option maxRecDepth 100000 in
set_option maxHeartbeats 4000000 in
theorem t_X0_addCausesOf_L29 (X : CX p rmX0_addCausesOf s m args c cX0_addCausesOf 7 RX0 wsX0_addCausesOf D (tC cI cL cS) 490 ad) (Y : RX meth (some .boolean)) {x1 : Int32} {x3 : Int32} {out : Int32 × Wd} : ∀ (n : Nat) (x2 : Int32) (x4 : Int32) (w : Wd), m_X0_addCausesOf_L29 x1 x3 n x2 x4 w = some out → WJ p l e rmX0_addCausesOf s m args below meth c (MQ below (QWi D 490 ad (cellC cI cL cS ad) out.1 out.2) args s 0 0 (AW 490 ad)) 7 D 490 ad (cellC cI cL cS ad) w 29 [(0, .ref (ad 473)), (1, .int x1), (2, .int x2), (3, .int x3), (4, .int x4)] [] := by
  intro n
  induction n with
  | zero => intro x2 x4 w hf; exact f_n hf
  | succ n ih =>
    intro x2 x4 w hf
    rw [m_X0_addCausesOf_L29] at hf
    refine j_iload X 4 dX0_addCausesOf_29 rfl ?_
    refine j_iload_n X 3 dX0_addCausesOf_31 rfl rfl ?_
    refine j_icmp_gt (tgt := 93) X dX0_addCausesOf_32 (by decide) (fun c => ?_) (fun c => ?_)
    · replace hf := f_t c hf
      refine j_iload_n X 2 dX0_addCausesOf_93 rfl rfl ?_
      exact j_bret X Y (congrArg Prod.fst (f_s hf)) (congrArg Prod.snd (f_s hf)) dX0_addCausesOf_94
    replace hf := f_f c hf
    refine j_iconst X (v := (0 : Int32)) rfl dX0_addCausesOf_35 ?_
    refine j_istore (lv' := [(0, .ref (ad 473)), (1, .int x1), (2, .int x2), (3, .int x3), (4, .int x4), (5, .int (0 : Int32))]) X dX0_addCausesOf_36 (by decide) rfl ?_
    refine t_X0_addCausesOf_L38 X Y ?_ _ _ _ _ hf
    intro x2_1 w2 hf
    refine j_iinc (v := (x4 + (1 : Int32))) (lv' := [(0, .ref (ad 473)), (1, .int x1), (2, .int x2_1), (3, .int x3), (4, .int (x4 + (1 : Int32)))]) X 4 dX0_addCausesOf_87 rfl rfl (by decide) rfl ?_
    refine j_goto (tgt := 29) X dX0_addCausesOf_90 (by decide) ?_
    exact ih _ _ _ hf
set_option maxRecDepth 100000 in
set_option maxHeartbeats 4000000 in
theorem t_X0_addCausesOf_j25 (X : CX p rmX0_addCausesOf s m args c cX0_addCausesOf 7 RX0 wsX0_addCausesOf D (tC cI cL cS) 490 ad) (Y : RX meth (some .boolean)) {x1 : Int32} {x2 : Int32} {s0 : Int32} {w : Wd} {out : Int32 × Wd} (hf : m_X0_addCausesOf_j25 x1 x2 s0 w = some out) : WJ p l e rmX0_addCausesOf s m args below meth c (MQ below (QWi D 490 ad (cellC cI cL cS ad) out.1 out.2) args s 0 0 (AW 490 ad)) 7 D 490 ad (cellC cI cL cS ad) w 25 [(0, .ref (ad 473)), (1, .int x1), (2, .int x2)] [.int s0] := by
  unfold m_X0_addCausesOf_j25 at hf
  refine j_istore_n (lv' := [(0, .ref (ad 473)), (1, .int x1), (2, .int x2), (3, .int s0)]) X dX0_addCausesOf_25 rfl (by decide) rfl ?_
  refine j_iconst X (v := (1 : Int32)) rfl dX0_addCausesOf_26 ?_
  refine j_istore (lv' := [(0, .ref (ad 473)), (1, .int x1), (2, .int x2), (3, .int s0), (4, .int (1 : Int32))]) X dX0_addCausesOf_27 (by decide) rfl ?_
  refine t_X0_addCausesOf_L29 X Y _ _ _ _ hf
set_option maxRecDepth 100000 in
set_option maxHeartbeats 4000000 in
theorem t_X0_addCausesOf_j24 (X : CX p rmX0_addCausesOf s m args c cX0_addCausesOf 7 RX0 wsX0_addCausesOf D (tC cI cL cS) 490 ad) (Y : RX meth (some .boolean)) {x1 : Int32} {x2 : Int32} {w : Wd} {out : Int32 × Wd} (hf : m_X0_addCausesOf_j24 x1 x2 w = some out) : WJ p l e rmX0_addCausesOf s m args below meth c (MQ below (QWi D 490 ad (cellC cI cL cS ad) out.1 out.2) args s 0 0 (AW 490 ad)) 7 D 490 ad (cellC cI cL cS ad) w 24 [(0, .ref (ad 473)), (1, .int x1), (2, .int x2)] [] := by
  unfold m_X0_addCausesOf_j24 at hf
  refine j_iconst X (v := (0 : Int32)) rfl dX0_addCausesOf_24 ?_
  exact t_X0_addCausesOf_j25 X Y hf
set_option maxRecDepth 100000 in
set_option maxHeartbeats 4000000 in
theorem c_X0_addCausesOf (hI : Inj 490 ad) {x1 : Int32} {w : Wd} {out : Int32 × Wd} (hf : m_X0_addCausesOf x1 w = some out) : Met l yX0_addCausesOf wsX0_addCausesOf rmX0_addCausesOf (va_Pc [.ref (ad 473), .int x1] (PW D (tC cI cL cS) 490 ad (cellC cI cL cS ad) w)) (QWi D 490 ad (cellC cI cL cS ad) out.1 out.2) 0 0 (AW 490 ad) := by
  refine mk_met (maxL := 7) (ret := (some .boolean)) RX0 hI (by decide) rfl rfl (Nat.le_of_ble_eq_true rfl) rfl rfl (fun p e s m args below meth c X Y => ?_)
  unfold m_X0_addCausesOf at hf
  refine j_iconst X (v := (0 : Int32)) rfl dX0_addCausesOf_0 ?_
  refine j_istore_n (lv' := [(0, .ref (ad 473)), (1, .int x1), (2, .int (0 : Int32))]) X dX0_addCausesOf_1 rfl (by decide) rfl ?_
  refine j_iload_n X 1 dX0_addCausesOf_2 rfl rfl ?_
  refine j_if_lt (tgt := 24) X dX0_addCausesOf_3 (by decide) (fun c => ?_) (fun c => ?_)
  · replace hf := f_t c hf
    exact t_X0_addCausesOf_j24 X Y hf
  replace hf := f_f c hf
  refine j_iload_n X 1 dX0_addCausesOf_6 rfl rfl ?_
  refine j_aload_n X 0 dX0_addCausesOf_7 rfl rfl ?_
  refine j_get (ref := "ProxyVersions$Causality") (index := 15) (v := .ref (ad 475)) X oCa inX0_addCausesOf_X0 rfl 2 (by decide) (List.mem_of_getElem? (i := 1) rfl) rfl rfl dX0_addCausesOf_8 ?_
  refine j_alen X 0 rfl i475 dX0_addCausesOf_11 ?_
  refine j_icmp_ge (tgt := 24) X dX0_addCausesOf_12 (by decide) (fun c => ?_) (fun c => ?_)
  · replace hf := f_t c hf
    exact t_X0_addCausesOf_j24 X Y hf
  replace hf := f_f c hf
  refine j_aload_n X 0 dX0_addCausesOf_15 rfl rfl ?_
  refine j_get (ref := "ProxyVersions$Causality") (index := 15) (v := .ref (ad 475)) X oCa inX0_addCausesOf_X0 rfl 2 (by decide) (List.mem_of_getElem? (i := 1) rfl) rfl rfl dX0_addCausesOf_16 ?_
  refine j_iload_n X 1 dX0_addCausesOf_19 rfl rfl ?_
  obtain ⟨hi1, hf⟩ := f_c hf
  refine j_iald X 0 rfl i475 hi1 dX0_addCausesOf_20 ?_
  refine j_goto (tgt := 25) X dX0_addCausesOf_21 (by decide) ?_
  exact t_X0_addCausesOf_j25 X Y hf
abbrev rmX0_findNeeds : Room := { frames := 2, cells := 0, slots := 0, locals := 50 }
theorem inX0_findNeeds_X0 : ∀ w ∈ wsX00, w ∈ wsX0_findNeeds := fun _ h => List.mem_cons_of_mem _ (List.mem_append_left _ (List.mem_append_right _ h))
set_option maxRecDepth 100000 in
set_option maxHeartbeats 4000000 in
theorem t_X0_findNeeds_j22 (X : CX p rmX0_findNeeds s m args c cX0_findNeeds 6 RX0 wsX0_findNeeds D (tC cI cL cS) 490 ad) (Y : RX meth none) {x1 : Int32} {x2 : Int32} {x3 : Int32} {s1 : Int32} {s2 : Int32} {w : Wd} {kc : Int32 → Wd → Option (Wd)} {kx29 : Wd → Option (Wd)} {out : Wd} (hf : m_X0_findNeeds_j22 x1 x2 x3 s1 s2 w kc kx29 = some out) (hk_kc : ∀ (y3 : Int32) (v : Wd), kc y3 v = some out → WJ p l e rmX0_findNeeds s m args below meth c (MQ below (QWv D 490 ad (cellC cI cL cS ad) out) args s 0 0 (AW 490 ad)) 6 D 490 ad (cellC cI cL cS ad) v 2 [(0, .ref (ad 473)), (1, .int x1), (2, .int x2), (3, .int y3)] []) (hk_kx29 : ∀  (v : Wd), kx29 v = some out → WJ p l e rmX0_findNeeds s m args below meth c (MQ below (QWv D 490 ad (cellC cI cL cS ad) out) args s 0 0 (AW 490 ad)) 6 D 490 ad (cellC cI cL cS ad) v 29 [(0, .ref (ad 473))] []) : WJ p l e rmX0_findNeeds s m args below meth c (MQ below (QWv D 490 ad (cellC cI cL cS ad) out) args s 0 0 (AW 490 ad)) 6 D 490 ad (cellC cI cL cS ad) w 22 [(0, .ref (ad 473)), (1, .int x1), (2, .int x2), (3, .int x3)] [.int s2, .int s1, .ref (ad 475)] := by
  unfold m_X0_findNeeds_j22 at hf
  obtain ⟨hi1, hf⟩ := f_c hf
  obtain ⟨w2, ew2, hf⟩ := f_lt hf
  refine j_iast X 0 rfl i475 hi1 dX0_findNeeds_22 ew2 ?_
  refine j_iinc (v := (x3 + (1 : Int32))) (lv' := [(0, .ref (ad 473)), (1, .int x1), (2, .int x2), (3, .int (x3 + (1 : Int32)))]) X 3 dX0_findNeeds_23 rfl rfl (by decide) rfl ?_
  refine j_goto (tgt := 2) X dX0_findNeeds_26 (by decide) ?_
  exact hk_kc _ _ hf
set_option maxRecDepth 100000 in
set_option maxHeartbeats 4000000 in
theorem t_X0_findNeeds_L2 (X : CX p rmX0_findNeeds s m args c cX0_findNeeds 6 RX0 wsX0_findNeeds D (tC cI cL cS) 490 ad) (Y : RX meth none) {x1 : Int32} {x2 : Int32} {kx29 : Wd → Option (Wd)} {out : Wd} (hk_kx29 : ∀  (v : Wd), kx29 v = some out → WJ p l e rmX0_findNeeds s m args below meth c (MQ below (QWv D 490 ad (cellC cI cL cS ad) out) args s 0 0 (AW 490 ad)) 6 D 490 ad (cellC cI cL cS ad) v 29 [(0, .ref (ad 473))] []) : ∀ (n : Nat) (x3 : Int32) (w : Wd), m_X0_findNeeds_L2 x1 x2 kx29 n x3 w = some out → WJ p l e rmX0_findNeeds s m args below meth c (MQ below (QWv D 490 ad (cellC cI cL cS ad) out) args s 0 0 (AW 490 ad)) 6 D 490 ad (cellC cI cL cS ad) w 2 [(0, .ref (ad 473)), (1, .int x1), (2, .int x2), (3, .int x3)] [] := by
  intro n
  induction n with
  | zero => intro x3 w hf; exact f_n hf
  | succ n ih =>
    intro x3 w hf
    rw [m_X0_findNeeds_L2] at hf
    refine j_iload_n X 3 dX0_findNeeds_2 rfl rfl ?_
    refine j_iconst X (v := (4 : Int32)) rfl dX0_findNeeds_3 ?_
    refine j_icmp_ge (tgt := 29) X dX0_findNeeds_4 (by decide) (fun c => ?_) (fun c => ?_)
    · replace hf := f_t c hf
      refine j_sub [0] rfl ?_
      exact hk_kx29 _ hf
    replace hf := f_f c hf
    refine j_aload_n X 0 dX0_findNeeds_7 rfl rfl ?_
    refine j_get (ref := "ProxyVersions$Causality") (index := 15) (v := .ref (ad 475)) X oCa inX0_findNeeds_X0 rfl 2 (by decide) (List.mem_of_getElem? (i := 1) rfl) rfl rfl dX0_findNeeds_8 ?_
    refine j_iload_n X 3 dX0_findNeeds_11 rfl rfl ?_
    refine j_iload_n X 3 dX0_findNeeds_12 rfl rfl ?_
    refine j_iload_n X 1 dX0_findNeeds_13 rfl rfl ?_
    refine j_icmp_ne (tgt := 21) X dX0_findNeeds_14 (by decide) (fun c => ?_) (fun c => ?_)
    · replace hf := f_t c hf
      refine j_iconst X (v := (0 : Int32)) rfl dX0_findNeeds_21 ?_
      exact t_X0_findNeeds_j22 X Y hf ih hk_kx29
    replace hf := f_fn c hf
    refine j_iload_n X 2 dX0_findNeeds_17 rfl rfl ?_
    refine j_goto (tgt := 22) X dX0_findNeeds_18 (by decide) ?_
    exact t_X0_findNeeds_j22 X Y hf ih hk_kx29
set_option maxRecDepth 100000 in
set_option maxHeartbeats 4000000 in
theorem t_X0_findNeeds_j74 (X : CX p rmX0_findNeeds s m args c cX0_findNeeds 6 RX0 wsX0_findNeeds D (tC cI cL cS) 490 ad) (Y : RX meth none) {x4 : Int32} {x5 : Int32} {s0 : Int32} {w : Wd} {kc : Int32 → Int32 → Wd → Option (Wd)} {kx81 : Int32 → Wd → Option (Wd)} {out : Wd} (hf : m_X0_findNeeds_j74 x4 x5 s0 w kc kx81 = some out) (hk_kc : ∀ (y3 : Int32) (y5 : Int32) (v : Wd), kc y3 y5 v = some out → WJ p l e rmX0_findNeeds s m args below meth c (MQ below (QWv D 490 ad (cellC cI cL cS ad) out) args s 0 0 (AW 490 ad)) 6 D 490 ad (cellC cI cL cS ad) v 50 [(0, .ref (ad 473)), (3, .int y3), (4, .int x4), (5, .int y5)] []) (hk_kx81 : ∀ (y3 : Int32) (v : Wd), kx81 y3 v = some out → WJ p l e rmX0_findNeeds s m args below meth c (MQ below (QWv D 490 ad (cellC cI cL cS ad) out) args s 0 0 (AW 490 ad)) 6 D 490 ad (cellC cI cL cS ad) v 81 [(0, .ref (ad 473)), (3, .int y3), (4, .int x4)] []) : WJ p l e rmX0_findNeeds s m args below meth c (MQ below (QWv D 490 ad (cellC cI cL cS ad) out) args s 0 0 (AW 490 ad)) 6 D 490 ad (cellC cI cL cS ad) w 74 [(0, .ref (ad 473)), (4, .int x4), (5, .int x5)] [.int s0] := by
  unfold m_X0_findNeeds_j74 at hf
  refine j_istore_n (lv' := [(0, .ref (ad 473)), (3, .int s0), (4, .int x4), (5, .int x5)]) X dX0_findNeeds_74 rfl (by decide) rfl ?_
  refine j_iinc (v := (x5 + (1 : Int32))) (lv' := [(0, .ref (ad 473)), (3, .int s0), (4, .int x4), (5, .int (x5 + (1 : Int32)))]) X 3 dX0_findNeeds_75 rfl rfl (by decide) rfl ?_
  refine j_goto (tgt := 50) X dX0_findNeeds_78 (by decide) ?_
  exact hk_kc _ _ _ hf
set_option maxRecDepth 100000 in
set_option maxHeartbeats 4000000 in
theorem t_X0_findNeeds_j69 (X : CX p rmX0_findNeeds s m args c cX0_findNeeds 6 RX0 wsX0_findNeeds D (tC cI cL cS) 490 ad) (Y : RX meth none) {x4 : Int32} {x5 : Int32} {w : Wd} {kc : Int32 → Int32 → Wd → Option (Wd)} {kx81 : Int32 → Wd → Option (Wd)} {out : Wd} (hf : m_X0_findNeeds_j69 x4 x5 w kc kx81 = some out) (hk_kc : ∀ (y3 : Int32) (y5 : Int32) (v : Wd), kc y3 y5 v = some out → WJ p l e rmX0_findNeeds s m args below meth c (MQ below (QWv D 490 ad (cellC cI cL cS ad) out) args s 0 0 (AW 490 ad)) 6 D 490 ad (cellC cI cL cS ad) v 50 [(0, .ref (ad 473)), (3, .int y3), (4, .int x4), (5, .int y5)] []) (hk_kx81 : ∀ (y3 : Int32) (v : Wd), kx81 y3 v = some out → WJ p l e rmX0_findNeeds s m args below meth c (MQ below (QWv D 490 ad (cellC cI cL cS ad) out) args s 0 0 (AW 490 ad)) 6 D 490 ad (cellC cI cL cS ad) v 81 [(0, .ref (ad 473)), (3, .int y3), (4, .int x4)] []) : WJ p l e rmX0_findNeeds s m args below meth c (MQ below (QWv D 490 ad (cellC cI cL cS ad) out) args s 0 0 (AW 490 ad)) 6 D 490 ad (cellC cI cL cS ad) w 69 [(0, .ref (ad 473)), (4, .int x4), (5, .int x5)] [] := by
  unfold m_X0_findNeeds_j69 at hf
  refine j_iconst X (v := (1 : Int32)) rfl dX0_findNeeds_69 ?_
  refine j_goto (tgt := 74) X dX0_findNeeds_70 (by decide) ?_
  exact t_X0_findNeeds_j74 X Y hf hk_kc hk_kx81
set_option maxRecDepth 100000 in
set_option maxHeartbeats 4000000 in
theorem t_X0_findNeeds_L50 (X : CX p rmX0_findNeeds s m args c cX0_findNeeds 6 RX0 wsX0_findNeeds D (tC cI cL cS) 490 ad) (Y : RX meth none) {x4 : Int32} {kx81 : Int32 → Wd → Option (Wd)} {out : Wd} (hk_kx81 : ∀ (y3 : Int32) (v : Wd), kx81 y3 v = some out → WJ p l e rmX0_findNeeds s m args below meth c (MQ below (QWv D 490 ad (cellC cI cL cS ad) out) args s 0 0 (AW 490 ad)) 6 D 490 ad (cellC cI cL cS ad) v 81 [(0, .ref (ad 473)), (3, .int y3), (4, .int x4)] []) : ∀ (n : Nat) (x3 : Int32) (x5 : Int32) (w : Wd), m_X0_findNeeds_L50 x4 kx81 n x3 x5 w = some out → WJ p l e rmX0_findNeeds s m args below meth c (MQ below (QWv D 490 ad (cellC cI cL cS ad) out) args s 0 0 (AW 490 ad)) 6 D 490 ad (cellC cI cL cS ad) w 50 [(0, .ref (ad 473)), (3, .int x3), (4, .int x4), (5, .int x5)] [] := by
  intro n
  induction n with
  | zero => intro x3 x5 w hf; exact f_n hf
  | succ n ih =>
    intro x3 x5 w hf
    rw [m_X0_findNeeds_L50] at hf
    refine j_iload X 3 dX0_findNeeds_50 rfl ?_
    refine j_iconst X (v := (4 : Int32)) rfl dX0_findNeeds_52 ?_
    refine j_icmp_ge (tgt := 81) X dX0_findNeeds_53 (by decide) (fun c => ?_) (fun c => ?_)
    · replace hf := f_t c hf
      refine j_sub [0, 1, 2] rfl ?_
      exact hk_kx81 _ _ hf
    replace hf := f_f c hf
    refine j_aload_n X 0 dX0_findNeeds_56 rfl rfl ?_
    refine j_iload X 3 dX0_findNeeds_57 rfl ?_
    obtain ⟨o1, ho1, hf⟩ := f_bd hf
    refine j_callVi X oCa rfl rfl [.int x5] (c_X0_addCausesOf X.2.2.2.2.2.2.2 ho1) (cwV 1 X.2.2.2.2.1 gX0_findNeeds_X0_addCausesOf rfl rfl rfl (by decide +kernel) ⟨Nat.le_of_ble_eq_true rfl, Nat.le_of_ble_eq_true rfl⟩) rfl rfl (Nat.le_of_ble_eq_true rfl) dX0_findNeeds_59 ?_
    refine j_if_ne (tgt := 69) X dX0_findNeeds_62 (by decide) (fun c => ?_) (fun c => ?_)
    · replace hf := f_t c hf
      refine j_sub [0, 2, 3] rfl ?_
      exact t_X0_findNeeds_j69 X Y hf ih hk_kx81
    replace hf := f_fn c hf
    refine j_iload_n X 1 dX0_findNeeds_65 rfl rfl ?_
    refine j_if_eq (tgt := 73) X dX0_findNeeds_66 (by decide) (fun c => ?_) (fun c => ?_)
    · replace hf := f_t c hf
      refine j_iconst X (v := (0 : Int32)) rfl dX0_findNeeds_73 ?_
      refine j_sub [0, 2, 3] rfl ?_
      exact t_X0_findNeeds_j74 X Y hf ih hk_kx81
    replace hf := f_f c hf
    refine j_sub [0, 2, 3] rfl ?_
    exact t_X0_findNeeds_j69 X Y hf ih hk_kx81
set_option maxRecDepth 100000 in
set_option maxHeartbeats 4000000 in
theorem t_X0_findNeeds_L34 (X : CX p rmX0_findNeeds s m args c cX0_findNeeds 6 RX0 wsX0_findNeeds D (tC cI cL cS) 490 ad) (Y : RX meth none) {out : Wd} : ∀ (n : Nat) (x3 : Int32) (x4 : Int32) (w : Wd), m_X0_findNeeds_L34 n x3 x4 w = some out → WJ p l e rmX0_findNeeds s m args below meth c (MQ below (QWv D 490 ad (cellC cI cL cS ad) out) args s 0 0 (AW 490 ad)) 6 D 490 ad (cellC cI cL cS ad) w 34 [(0, .ref (ad 473)), (3, .int x3), (4, .int x4)] [] := by
  intro n
  induction n with
  | zero => intro x3 x4 w hf; exact f_n hf
  | succ n ih =>
    intro x3 x4 w hf
    rw [m_X0_findNeeds_L34] at hf
    refine j_iload X 2 dX0_findNeeds_34 rfl ?_
    refine j_bipush X (v := (96 : Int32)) (by decide) dX0_findNeeds_36 ?_
    refine j_icmp_gt (tgt := 87) X dX0_findNeeds_38 (by decide) (fun c => ?_) (fun c => ?_)
    · replace hf := f_t c hf
      exact j_vret X Y (f_s hf) dX0_findNeeds_87
    replace hf := f_f c hf
    refine j_iload_n X 1 dX0_findNeeds_41 rfl rfl ?_
    refine j_if_eq (tgt := 87) X dX0_findNeeds_42 (by decide) (fun c => ?_) (fun c => ?_)
    · replace hf := f_t c hf
      exact j_vret X Y (f_s hf) dX0_findNeeds_87
    replace hf := f_f c hf
    refine j_iconst X (v := (0 : Int32)) rfl dX0_findNeeds_45 ?_
    refine j_istore_n (lv' := [(0, .ref (ad 473)), (3, .int (0 : Int32)), (4, .int x4)]) X dX0_findNeeds_46 rfl (by decide) rfl ?_
    refine j_iconst X (v := (0 : Int32)) rfl dX0_findNeeds_47 ?_
    refine j_istore (lv' := [(0, .ref (ad 473)), (3, .int (0 : Int32)), (4, .int x4), (5, .int (0 : Int32))]) X dX0_findNeeds_48 (by decide) rfl ?_
    refine t_X0_findNeeds_L50 X Y ?_ _ _ _ _ hf
    intro x3_1 w2 hf
    refine j_iinc (v := (x4 + (1 : Int32))) (lv' := [(0, .ref (ad 473)), (3, .int x3_1), (4, .int (x4 + (1 : Int32)))]) X 2 dX0_findNeeds_81 rfl rfl (by decide) rfl ?_
    refine j_goto (tgt := 34) X dX0_findNeeds_84 (by decide) ?_
    exact ih _ _ _ hf
set_option maxRecDepth 100000 in
set_option maxHeartbeats 4000000 in
theorem c_X0_findNeeds (hI : Inj 490 ad) {x1 : Int32} {x2 : Int32} {w : Wd} {out : Wd} (hf : m_X0_findNeeds x1 x2 w = some out) : Met l yX0_findNeeds wsX0_findNeeds rmX0_findNeeds (va_Pc [.ref (ad 473), .int x1, .int x2] (PW D (tC cI cL cS) 490 ad (cellC cI cL cS ad) w)) (QWv D 490 ad (cellC cI cL cS ad) out) 0 0 (AW 490 ad) := by
  refine mk_met (maxL := 6) (ret := none) RX0 hI (by decide) rfl rfl (Nat.le_of_ble_eq_true rfl) rfl rfl (fun p e s m args below meth c X Y => ?_)
  unfold m_X0_findNeeds at hf
  refine j_iconst X (v := (0 : Int32)) rfl dX0_findNeeds_0 ?_
  refine j_istore_n (lv' := [(0, .ref (ad 473)), (1, .int x1), (2, .int x2), (3, .int (0 : Int32))]) X dX0_findNeeds_1 rfl (by decide) rfl ?_
  refine t_X0_findNeeds_L2 X Y ?_ _ _ _ hf
  intro w1 hf
  refine j_iconst X (v := (1 : Int32)) rfl dX0_findNeeds_29 ?_
  refine j_istore_n (lv' := [(0, .ref (ad 473)), (1, .int x1), (2, .int x2), (3, .int (1 : Int32))]) X dX0_findNeeds_30 rfl (by decide) rfl ?_
  refine j_iconst X (v := (0 : Int32)) rfl dX0_findNeeds_31 ?_
  refine j_istore (lv' := [(0, .ref (ad 473)), (1, .int x1), (2, .int x2), (3, .int (1 : Int32)), (4, .int (0 : Int32))]) X dX0_findNeeds_32 (by decide) rfl ?_
  refine j_sub [0, 3, 4] rfl ?_
  refine t_X0_findNeeds_L34 X Y _ _ _ _ hf
abbrev rmX0_countMissing : Room := { frames := 3, cells := 0, slots := 0, locals := 75 }
theorem inX0_countMissing_X0 : ∀ w ∈ wsX00, w ∈ wsX0_countMissing := fun _ h => List.mem_cons_of_mem _ (List.mem_append_left _ (List.mem_append_right _ h))
set_option maxRecDepth 100000 in
set_option maxHeartbeats 4000000 in
theorem t_X0_countMissing_j51 (X : CX p rmX0_countMissing s m args c cX0_countMissing 7 RX0 wsX0_countMissing D (tC cI cL cS) 490 ad) (Y : RX meth (some .int)) {x1 : Int32} {x4 : Int32} {x5 : Int32} {x6 : Int32} {w : Wd} {kc : Int32 → Int32 → Wd → Option (Int32 × Wd)} {kx57 : Int32 → Wd → Option (Int32 × Wd)} {out : Int32 × Wd} (hf : m_X0_countMissing_j51 x1 x4 x5 x6 w kc kx57 = some out) (hk_kc : ∀ (y4 : Int32) (y6 : Int32) (v : Wd), kc y4 y6 v = some out → WJ p l e rmX0_countMissing s m args below meth c (MQ below (QWi D 490 ad (cellC cI cL cS ad) out.1 out.2) args s 0 0 (AW 490 ad)) 7 D 490 ad (cellC cI cL cS ad) v 21 [(0, .ref (ad 473)), (1, .int x1), (4, .int y4), (5, .int x5), (6, .int y6)] []) (hk_kx57 : ∀ (y4 : Int32) (v : Wd), kx57 y4 v = some out → WJ p l e rmX0_countMissing s m args below meth c (MQ below (QWi D 490 ad (cellC cI cL cS ad) out.1 out.2) args s 0 0 (AW 490 ad)) 7 D 490 ad (cellC cI cL cS ad) v 57 [(0, .ref (ad 473)), (1, .int x1), (4, .int y4), (5, .int x5)] []) : WJ p l e rmX0_countMissing s m args below meth c (MQ below (QWi D 490 ad (cellC cI cL cS ad) out.1 out.2) args s 0 0 (AW 490 ad)) 7 D 490 ad (cellC cI cL cS ad) w 51 [(0, .ref (ad 473)), (1, .int x1), (4, .int x4), (5, .int x5), (6, .int x6)] [] := by
  unfold m_X0_countMissing_j51 at hf
  refine j_iinc (v := (x6 + (1 : Int32))) (lv' := [(0, .ref (ad 473)), (1, .int x1), (4, .int x4), (5, .int x5), (6, .int (x6 + (1 : Int32)))]) X 4 dX0_countMissing_51 rfl rfl (by decide) rfl ?_
  refine j_goto (tgt := 21) X dX0_countMissing_54 (by decide) ?_
  exact hk_kc _ _ _ hf
set_option maxRecDepth 100000 in
set_option maxHeartbeats 4000000 in
theorem t_X0_countMissing_L21 (X : CX p rmX0_countMissing s m args c cX0_countMissing 7 RX0 wsX0_countMissing D (tC cI cL cS) 490 ad) (Y : RX meth (some .int)) {x1 : Int32} {x5 : Int32} {kx57 : Int32 → Wd → Option (Int32 × Wd)} {out : Int32 × Wd} (hk_kx57 : ∀ (y4 : Int32) (v : Wd), kx57 y4 v = some out → WJ p l e rmX0_countMissing s m args below meth c (MQ below (QWi D 490 ad (cellC cI cL cS ad) out.1 out.2) args s 0 0 (AW 490 ad)) 7 D 490 ad (cellC cI cL cS ad) v 57 [(0, .ref (ad 473)), (1, .int x1), (4, .int y4), (5, .int x5)] []) : ∀ (n : Nat) (x4 : Int32) (x6 : Int32) (w : Wd), m_X0_countMissing_L21 x1 x5 kx57 n x4 x6 w = some out → WJ p l e rmX0_countMissing s m args below meth c (MQ below (QWi D 490 ad (cellC cI cL cS ad) out.1 out.2) args s 0 0 (AW 490 ad)) 7 D 490 ad (cellC cI cL cS ad) w 21 [(0, .ref (ad 473)), (1, .int x1), (4, .int x4), (5, .int x5), (6, .int x6)] [] := by
  intro n
  induction n with
  | zero => intro x4 x6 w hf; exact f_n hf
  | succ n ih =>
    intro x4 x6 w hf
    rw [m_X0_countMissing_L21] at hf
    refine j_iload X 4 dX0_countMissing_21 rfl ?_
    refine j_aload_n X 0 dX0_countMissing_23 rfl rfl ?_
    refine j_get (ref := "ProxyVersions$Causality") (index := 15) (v := .ref (ad 475)) X oCa inX0_countMissing_X0 rfl 2 (by decide) (List.mem_of_getElem? (i := 1) rfl) rfl rfl dX0_countMissing_24 ?_
    refine j_iload X 3 dX0_countMissing_27 rfl ?_
    obtain ⟨hi1, hf⟩ := f_c hf
    refine j_iald X 0 rfl i475 hi1 dX0_countMissing_29 ?_
    refine j_icmp_gt (tgt := 57) X dX0_countMissing_30 (by decide) (fun c => ?_) (fun c => ?_)
    · replace hf := f_t c hf
      refine j_sub [0, 1, 2, 3] rfl ?_
      exact hk_kx57 _ _ hf
    replace hf := f_f c hf
    refine j_aload_n X 0 dX0_countMissing_33 rfl rfl ?_
    refine j_get (ref := "ProxyVersions$Causality") (index := 18) (v := .ref (ad 50)) X oCa inX0_countMissing_X0 rfl 0 (by decide) (List.mem_of_getElem? (i := 2) rfl) rfl rfl dX0_countMissing_34 ?_
    refine j_iload_n X 1 dX0_countMissing_37 rfl rfl ?_
    refine j_iload X 3 dX0_countMissing_38 rfl ?_
    refine j_iload X 4 dX0_countMissing_40 rfl ?_
    obtain ⟨o2, ho2, hf⟩ := f_bd hf
    refine j_callVi X oS0 rfl rfl [.int x1, .int x5, .int x6] (c_X5_knows X.2.2.2.2.2.2.2 ho2) (cwV 3 X.2.2.2.2.1 gX0_countMissing_X5_knows rfl rfl rfl (by decide +kernel) ⟨Nat.le_of_ble_eq_true rfl, Nat.le_of_ble_eq_true rfl⟩) rfl rfl (Nat.le_of_ble_eq_true rfl) dX0_countMissing_42 ?_
    refine j_if_ne (tgt := 51) X dX0_countMissing_45 (by decide) (fun c => ?_) (fun c => ?_)
    · replace hf := f_t c hf
      exact t_X0_countMissing_j51 X Y hf ih hk_kx57
    replace hf := f_fn c hf
    refine j_iinc (v := (x4 + (1 : Int32))) (lv' := [(0, .ref (ad 473)), (1, .int x1), (4, .int (x4 + (1 : Int32))), (5, .int x5), (6, .int x6)]) X 2 dX0_countMissing_48 rfl rfl (by decide) rfl ?_
    exact t_X0_countMissing_j51 X Y hf ih hk_kx57
set_option maxRecDepth 100000 in
set_option maxHeartbeats 4000000 in
theorem t_X0_countMissing_L12 (X : CX p rmX0_countMissing s m args c cX0_countMissing 7 RX0 wsX0_countMissing D (tC cI cL cS) 490 ad) (Y : RX meth (some .int)) {x1 : Int32} {out : Int32 × Wd} : ∀ (n : Nat) (x4 : Int32) (x5 : Int32) (w : Wd), m_X0_countMissing_L12 x1 n x4 x5 w = some out → WJ p l e rmX0_countMissing s m args below meth c (MQ below (QWi D 490 ad (cellC cI cL cS ad) out.1 out.2) args s 0 0 (AW 490 ad)) 7 D 490 ad (cellC cI cL cS ad) w 12 [(0, .ref (ad 473)), (1, .int x1), (4, .int x4), (5, .int x5)] [] := by
  intro n
  induction n with
  | zero => intro x4 x5 w hf; exact f_n hf
  | succ n ih =>
    intro x4 x5 w hf
    rw [m_X0_countMissing_L12] at hf
    refine j_iload X 3 dX0_countMissing_12 rfl ?_
    refine j_iconst X (v := (4 : Int32)) rfl dX0_countMissing_14 ?_
    refine j_icmp_ge (tgt := 63) X dX0_countMissing_15 (by decide) (fun c => ?_) (fun c => ?_)
    · replace hf := f_t c hf
      refine j_iload X 2 dX0_countMissing_63 rfl ?_
      exact j_iret X Y (congrArg Prod.fst (f_s hf)) (congrArg Prod.snd (f_s hf)) dX0_countMissing_65
    replace hf := f_f c hf
    refine j_iconst X (v := (1 : Int32)) rfl dX0_countMissing_18 ?_
    refine j_istore (lv' := [(0, .ref (ad 473)), (1, .int x1), (4, .int x4), (5, .int x5), (6, .int (1 : Int32))]) X dX0_countMissing_19 (by decide) rfl ?_
    refine t_X0_countMissing_L21 X Y ?_ _ _ _ _ hf
    intro x4_1 w2 hf
    refine j_iinc (v := (x5 + (1 : Int32))) (lv' := [(0, .ref (ad 473)), (1, .int x1), (4, .int x4_1), (5, .int (x5 + (1 : Int32)))]) X 3 dX0_countMissing_57 rfl rfl (by decide) rfl ?_
    refine j_goto (tgt := 12) X dX0_countMissing_60 (by decide) ?_
    exact ih _ _ _ hf
set_option maxRecDepth 100000 in
set_option maxHeartbeats 4000000 in
theorem c_X0_countMissing (hI : Inj 490 ad) {x1 : Int32} {x2 : Int32} {x3 : Int32} {w : Wd} {out : Int32 × Wd} (hf : m_X0_countMissing x1 x2 x3 w = some out) : Met l yX0_countMissing wsX0_countMissing rmX0_countMissing (va_Pc [.ref (ad 473), .int x1, .int x2, .int x3] (PW D (tC cI cL cS) 490 ad (cellC cI cL cS ad) w)) (QWi D 490 ad (cellC cI cL cS ad) out.1 out.2) 0 0 (AW 490 ad) := by
  refine mk_met (maxL := 7) (ret := (some .int)) RX0 hI (by decide) rfl rfl (Nat.le_of_ble_eq_true rfl) rfl rfl (fun p e s m args below meth c X Y => ?_)
  unfold m_X0_countMissing at hf
  refine j_aload_n X 0 dX0_countMissing_0 rfl rfl ?_
  refine j_iload_n X 2 dX0_countMissing_1 rfl rfl ?_
  refine j_iload_n X 3 dX0_countMissing_2 rfl rfl ?_
  obtain ⟨o1, ho1, hf⟩ := f_bd hf
  refine j_callVv X oCa rfl rfl [.int x2, .int x3] (c_X0_findNeeds X.2.2.2.2.2.2.2 ho1) (cwV 2 X.2.2.2.2.1 gX0_countMissing_X0_findNeeds rfl rfl rfl (by decide +kernel) ⟨Nat.le_of_ble_eq_true rfl, Nat.le_of_ble_eq_true rfl⟩) rfl rfl (Nat.le_of_ble_eq_true rfl) dX0_countMissing_3 ?_
  refine j_iconst X (v := (0 : Int32)) rfl dX0_countMissing_6 ?_
  refine j_istore (lv' := [(0, .ref (ad 473)), (1, .int x1), (2, .int x2), (3, .int x3), (4, .int (0 : Int32))]) X dX0_countMissing_7 (by decide) rfl ?_
  refine j_iconst X (v := (0 : Int32)) rfl dX0_countMissing_9 ?_
  refine j_istore (lv' := [(0, .ref (ad 473)), (1, .int x1), (2, .int x2), (3, .int x3), (4, .int (0 : Int32)), (5, .int (0 : Int32))]) X dX0_countMissing_10 (by decide) rfl ?_
  refine j_sub [0, 1, 4, 5] rfl ?_
  refine t_X0_countMissing_L12 X Y _ _ _ _ hf
abbrev rmX1_savedCount : Room := { frames := 0, cells := 0, slots := 0, locals := 0 }
theorem inX1_savedCount_X1 : ∀ w ∈ wsX10, w ∈ wsX1_savedCount := fun _ h => List.mem_cons_of_mem _ (List.mem_append_right _ h)
set_option maxRecDepth 100000 in
set_option maxHeartbeats 4000000 in
theorem c_X1_savedCount (hI : Inj 490 ad) {w : Wd} {out : Int32} (hf : m_X1_savedCount w = some out) : Met l yX1_savedCount wsX1_savedCount rmX1_savedCount (va_Pc [.ref (ad 477)] (PW D (tC cI cL cS) 490 ad (cellC cI cL cS ad) w)) (QWi D 490 ad (cellC cI cL cS ad) out w) 0 0 (AW 490 ad) := by
  refine mk_met (maxL := 1) (ret := (some .int)) RX1 hI (by decide) rfl rfl (Nat.le_of_ble_eq_true rfl) rfl rfl (fun p e s m args below meth c X Y => ?_)
  unfold m_X1_savedCount at hf
  refine j_aload_n X 0 dX1_savedCount_0 rfl rfl ?_
  refine j_get (ref := "ProxyVersions$History") (index := 18) (v := .int (w 477 2)) X oHi inX1_savedCount_X1 rfl 2 (by decide) (List.mem_of_getElem? (i := 1) rfl) rfl rfl dX1_savedCount_1 ?_
  exact j_iret X Y (f_s hf) rfl dX1_savedCount_4
abbrev rmX1_stage : Room := { frames := 3, cells := 0, slots := 0, locals := 103 }
theorem inX1_stage_X1 : ∀ w ∈ wsX10, w ∈ wsX1_stage := fun _ h => List.mem_cons_of_mem _ (List.mem_append_left _ (List.mem_append_left _ (List.mem_append_right _ h)))
set_option maxRecDepth 100000 in
set_option maxHeartbeats 4000000 in
theorem c_X1_stage (hI : Inj 490 ad) {w : Wd} {out : Wd} (hf : m_X1_stage w = some out) : Met l yX1_stage wsX1_stage rmX1_stage (va_Pc [.ref (ad 477), .ref (ad 50)] (PW D (tC cI cL cS) 490 ad (cellC cI cL cS ad) w)) (QWv D 490 ad (cellC cI cL cS ad) out) 0 0 (AW 490 ad) := by
  refine mk_met (maxL := 2) (ret := none) RX1 hI (by decide) rfl rfl (Nat.le_of_ble_eq_true rfl) rfl rfl (fun p e s m args below meth c X Y => ?_)
  unfold m_X1_stage at hf
  refine j_aload_n X 0 dX1_stage_0 rfl rfl ?_
  refine j_get (ref := "ProxyVersions$History") (index := 13) (v := .ref (ad 478)) X oHi inX1_stage_X1 rfl 0 (by decide) (List.mem_of_getElem? (i := 1) rfl) rfl rfl dX1_stage_1 ?_
  refine j_aload_n X 0 dX1_stage_4 rfl rfl ?_
  refine j_get (ref := "ProxyVersions$History") (index := 22) (v := .int (w 477 1)) X oHi inX1_stage_X1 rfl 1 (by decide) (List.mem_of_getElem? (i := 2) rfl) rfl rfl dX1_stage_5 ?_
  refine j_bipush X (v := (7 : Int32)) (by decide) dX1_stage_8 ?_
  obtain ⟨o1, ho1, hf⟩ := f_bd hf
  refine j_callSi X [.int (w 477 1), .int (7 : Int32)] (c_J9_floorMod_7cf53 X.2.2.2.2.2.2.2 ho1) (va_cwS 2 X.2.2.2.2.1 gX1_stage_J9_floorMod_7cf53 rfl rfl rfl (by decide +kernel) ⟨Nat.le_of_ble_eq_true rfl, Nat.le_of_ble_eq_true rfl⟩) rfl rfl (Nat.le_of_ble_eq_true rfl) dX1_stage_10 ?_
  obtain ⟨hi2, hf⟩ := f_c hf
  refine j_aald X 2 rfl qHi hi2 dX1_stage_13 ?_
  refine j_aload_n X 1 dX1_stage_14 rfl rfl ?_
  obtain ⟨o3, ho3, hf⟩ := f_bd hf
  refine j_callVv X (oSt (hz_ib hi2)) rfl rfl [.ref (ad 50)] (c_X5_copyFrom X.2.2.2.2.2.2.2 (hz_ib hi2) h08 ho3) (cwV 1 X.2.2.2.2.1 gX1_stage_X5_copyFrom rfl rfl rfl (by decide +kernel) ⟨Nat.le_of_ble_eq_true rfl, Nat.le_of_ble_eq_true rfl⟩) rfl rfl (Nat.le_of_ble_eq_true rfl) dX1_stage_15 ?_
  exact j_vret X Y (f_s hf) dX1_stage_18
abbrev rmX1_commit : Room := { frames := 1, cells := 0, slots := 0, locals := 60 }
theorem inX1_commit_X1 : ∀ w ∈ wsX10, w ∈ wsX1_commit := fun _ h => List.mem_cons_of_mem _ (List.mem_append_right _ h)
set_option maxRecDepth 100000 in
set_option maxHeartbeats 4000000 in
theorem c_X1_commit (hI : Inj 490 ad) {w : Wd} {out : Wd} (hf : m_X1_commit w = some out) : Met l yX1_commit wsX1_commit rmX1_commit (va_Pc [.ref (ad 477)] (PW D (tC cI cL cS) 490 ad (cellC cI cL cS ad) w)) (QWv D 490 ad (cellC cI cL cS ad) out) 0 0 (AW 490 ad) := by
  refine mk_met (maxL := 1) (ret := none) RX1 hI (by decide) rfl rfl (Nat.le_of_ble_eq_true rfl) rfl rfl (fun p e s m args below meth c X Y => ?_)
  unfold m_X1_commit at hf
  refine j_aload_n X 0 dX1_commit_0 rfl rfl ?_
  refine j_aload_n X 0 dX1_commit_1 rfl rfl ?_
  refine j_get (ref := "ProxyVersions$History") (index := 22) (v := .int (w 477 1)) X oHi inX1_commit_X1 rfl 1 (by decide) (List.mem_of_getElem? (i := 1) rfl) rfl rfl dX1_commit_2 ?_
  refine j_iconst X (v := (1 : Int32)) rfl dX1_commit_5 ?_
  refine j_iadd X dX1_commit_6 ?_
  refine j_bipush X (v := (7 : Int32)) (by decide) dX1_commit_7 ?_
  obtain ⟨o1, ho1, hf⟩ := f_bd hf
  refine j_callSi X [.int ((w 477 1) + (1 : Int32)), .int (7 : Int32)] (c_J9_floorMod_7cf53 X.2.2.2.2.2.2.2 ho1) (va_cwS 2 X.2.2.2.2.1 gX1_commit_J9_floorMod_7cf53 rfl rfl rfl (by decide +kernel) ⟨Nat.le_of_ble_eq_true rfl, Nat.le_of_ble_eq_true rfl⟩) rfl rfl (Nat.le_of_ble_eq_true rfl) dX1_commit_9 ?_
  obtain ⟨w2, ew2, hf⟩ := f_lt hf
  refine j_put (ref := "ProxyVersions$History") (index := 22)  X oHi inX1_commit_X1 tyX1_ok nmX1 rfl 1 (by decide) (List.mem_of_getElem? (i := 1) rfl) rfl rfl rfl (Nat.le_of_ble_eq_true rfl) rfl dX1_commit_12 ew2 ?_
  refine j_aload_n X 0 dX1_commit_15 rfl rfl ?_
  refine j_aload_n X 0 dX1_commit_16 rfl rfl ?_
  refine j_get (ref := "ProxyVersions$History") (index := 18) (v := .int (w2 477 2)) X oHi inX1_commit_X1 rfl 2 (by decide) (List.mem_of_getElem? (i := 2) rfl) rfl rfl dX1_commit_17 ?_
  refine j_iconst X (v := (1 : Int32)) rfl dX1_commit_20 ?_
  refine j_iadd X dX1_commit_21 ?_
  refine j_bipush X (v := (6 : Int32)) (by decide) dX1_commit_22 ?_
  refine j_mmin X (List.mem_of_getElem? (i := 3) rfl) (List.mem_of_getElem? (i := 4) rfl) (List.mem_of_getElem? (i := 5) rfl) (List.mem_of_getElem? (i := 6) rfl) (Nat.le_of_ble_eq_true rfl) (Nat.le_of_ble_eq_true rfl) dX1_commit_24 ?_
  obtain ⟨w3, ew3, hf⟩ := f_lt hf
  refine j_put (ref := "ProxyVersions$History") (index := 18)  X oHi inX1_commit_X1 tyX1_ok nmX1 rfl 2 (by decide) (List.mem_of_getElem? (i := 2) rfl) rfl rfl rfl (Nat.le_of_ble_eq_true rfl) rfl dX1_commit_27 ew3 ?_
  exact j_vret X Y (f_s hf) dX1_commit_30
abbrev rmX1_restore : Room := { frames := 3, cells := 0, slots := 0, locals := 103 }
theorem inX1_restore_X1 : ∀ w ∈ wsX10, w ∈ wsX1_restore := fun _ h => List.mem_cons_of_mem _ (List.mem_append_left _ (List.mem_append_left _ (List.mem_append_right _ h)))
set_option maxRecDepth 100000 in
set_option maxHeartbeats 4000000 in
theorem c_X1_restore (hI : Inj 490 ad) {w : Wd} {out : Int32 × Wd} (hf : m_X1_restore w = some out) : Met l yX1_restore wsX1_restore rmX1_restore (va_Pc [.ref (ad 477), .ref (ad 50)] (PW D (tC cI cL cS) 490 ad (cellC cI cL cS ad) w)) (QWi D 490 ad (cellC cI cL cS ad) out.1 out.2) 0 0 (AW 490 ad) := by
  refine mk_met (maxL := 2) (ret := (some .boolean)) RX1 hI (by decide) rfl rfl (Nat.le_of_ble_eq_true rfl) rfl rfl (fun p e s m args below meth c X Y => ?_)
  unfold m_X1_restore at hf
  refine j_aload_n X 0 dX1_restore_0 rfl rfl ?_
  refine j_get (ref := "ProxyVersions$History") (index := 18) (v := .int (w 477 2)) X oHi inX1_restore_X1 rfl 2 (by decide) (List.mem_of_getElem? (i := 1) rfl) rfl rfl dX1_restore_1 ?_
  refine j_if_ne (tgt := 9) X dX1_restore_4 (by decide) (fun c => ?_) (fun c => ?_)
  · replace hf := f_t c hf
    refine j_aload_n X 0 dX1_restore_9 rfl rfl ?_
    refine j_aload_n X 0 dX1_restore_10 rfl rfl ?_
    refine j_get (ref := "ProxyVersions$History") (index := 22) (v := .int (w 477 1)) X oHi inX1_restore_X1 rfl 1 (by decide) (List.mem_of_getElem? (i := 2) rfl) rfl rfl dX1_restore_11 ?_
    refine j_iconst X (v := (1 : Int32)) rfl dX1_restore_14 ?_
    refine j_isub X dX1_restore_15 ?_
    refine j_bipush X (v := (7 : Int32)) (by decide) dX1_restore_16 ?_
    obtain ⟨o1, ho1, hf⟩ := f_bd hf
    refine j_callSi X [.int ((w 477 1) - (1 : Int32)), .int (7 : Int32)] (c_J9_floorMod_7cf53 X.2.2.2.2.2.2.2 ho1) (va_cwS 2 X.2.2.2.2.1 gX1_restore_J9_floorMod_7cf53 rfl rfl rfl (by decide +kernel) ⟨Nat.le_of_ble_eq_true rfl, Nat.le_of_ble_eq_true rfl⟩) rfl rfl (Nat.le_of_ble_eq_true rfl) dX1_restore_18 ?_
    obtain ⟨w2, ew2, hf⟩ := f_lt hf
    refine j_put (ref := "ProxyVersions$History") (index := 22)  X oHi inX1_restore_X1 tyX1_ok nmX1 rfl 1 (by decide) (List.mem_of_getElem? (i := 2) rfl) rfl rfl rfl (Nat.le_of_ble_eq_true rfl) rfl dX1_restore_21 ew2 ?_
    refine j_aload_n X 0 dX1_restore_24 rfl rfl ?_
    refine j_dup X rfl dX1_restore_25 ?_
    refine j_get (ref := "ProxyVersions$History") (index := 18) (v := .int (w2 477 2)) X oHi inX1_restore_X1 rfl 2 (by decide) (List.mem_of_getElem? (i := 1) rfl) rfl rfl dX1_restore_26 ?_
    refine j_iconst X (v := (1 : Int32)) rfl dX1_restore_29 ?_
    refine j_isub X dX1_restore_30 ?_
    obtain ⟨w3, ew3, hf⟩ := f_lt hf
    refine j_put (ref := "ProxyVersions$History") (index := 18)  X oHi inX1_restore_X1 tyX1_ok nmX1 rfl 2 (by decide) (List.mem_of_getElem? (i := 1) rfl) rfl rfl rfl (Nat.le_of_ble_eq_true rfl) rfl dX1_restore_31 ew3 ?_
    refine j_aload_n X 1 dX1_restore_34 rfl rfl ?_
    refine j_aload_n X 0 dX1_restore_35 rfl rfl ?_
    refine j_get (ref := "ProxyVersions$History") (index := 13) (v := .ref (ad 478)) X oHi inX1_restore_X1 rfl 0 (by decide) (List.mem_of_getElem? (i := 3) rfl) rfl rfl dX1_restore_36 ?_
    refine j_aload_n X 0 dX1_restore_39 rfl rfl ?_
    refine j_get (ref := "ProxyVersions$History") (index := 22) (v := .int (w3 477 1)) X oHi inX1_restore_X1 rfl 1 (by decide) (List.mem_of_getElem? (i := 2) rfl) rfl rfl dX1_restore_40 ?_
    obtain ⟨hi4, hf⟩ := f_c hf
    refine j_aald X 2 rfl qHi hi4 dX1_restore_43 ?_
    obtain ⟨o5, ho5, hf⟩ := f_bd hf
    refine j_callVv X oS0 rfl rfl [.ref (ad (59 * ((w3 477 1).toNatClampNeg + 1) + 50))] (c_X5_copyFrom X.2.2.2.2.2.2.2 h08 (hz_ib hi4) ho5) (cwV 1 X.2.2.2.2.1 gX1_restore_X5_copyFrom rfl rfl rfl (by decide +kernel) ⟨Nat.le_of_ble_eq_true rfl, Nat.le_of_ble_eq_true rfl⟩) rfl rfl (Nat.le_of_ble_eq_true rfl) dX1_restore_44 ?_
    refine j_iconst X (v := (1 : Int32)) rfl dX1_restore_47 ?_
    exact j_bret X Y (Eq.trans (by decide : (1 : Int32) &&& 1 = (1 : Int32)) (congrArg Prod.fst (f_s hf))) (congrArg Prod.snd (f_s hf)) dX1_restore_48
  replace hf := f_fn c hf
  refine j_iconst X (v := (0 : Int32)) rfl dX1_restore_7 ?_
  exact j_bret X Y (Eq.trans (by decide : (0 : Int32) &&& 1 = (0 : Int32)) (congrArg Prod.fst (f_s hf))) (congrArg Prod.snd (f_s hf)) dX1_restore_8
abbrev rmX4_length : Room := { frames := 1, cells := 0, slots := 0, locals := 20 }
theorem inX4_length_X4 : ∀ w ∈ wsX40, w ∈ wsX4_length := fun _ h => List.mem_cons_of_mem _ (List.mem_append_left _ (List.mem_append_right _ h))
set_option maxRecDepth 100000 in
set_option maxHeartbeats 4000000 in
theorem c_X4_length (hI : Inj 490 ad) {w : Wd} {out : Int32} (hf : m_X4_length w = some out) : Met l yX4_length wsX4_length rmX4_length (va_Pc [.ref (ad 479)] (PW D (tC cI cL cS) 490 ad (cellC cI cL cS ad) w)) (QWi D 490 ad (cellC cI cL cS ad) out w) 0 0 (AW 490 ad) := by
  refine mk_met (maxL := 1) (ret := (some .int)) RX4 hI (by decide) rfl rfl (Nat.le_of_ble_eq_true rfl) rfl rfl (fun p e s m args below meth c X Y => ?_)
  unfold m_X4_length at hf
  refine j_aload_n X 0 dX4_length_0 rfl rfl ?_
  refine j_get (ref := "ProxyVersions$Script") (index := 14) (v := .ref (ad 484)) X oSc inX4_length_X4 rfl 0 (by decide) (List.mem_of_getElem? (i := 1) rfl) rfl rfl dX4_length_1 ?_
  obtain ⟨o1, ho1, hf⟩ := f_bd hf
  refine j_callVi X (oLn ln484) rfl rfl [] (c_X2_length X.2.2.2.2.2.2.2 ln484 ho1) (cwV 0 X.2.2.2.2.1 gX4_length_X2_length rfl rfl rfl (by decide +kernel) ⟨Nat.le_of_ble_eq_true rfl, Nat.le_of_ble_eq_true rfl⟩) rfl rfl (Nat.le_of_ble_eq_true rfl) dX4_length_4 ?_
  exact j_iret X Y (f_s hf) rfl dX4_length_7
abbrev rmX4_letterAt : Room := { frames := 1, cells := 0, slots := 0, locals := 21 }
theorem inX4_letterAt_X4 : ∀ w ∈ wsX40, w ∈ wsX4_letterAt := fun _ h => List.mem_cons_of_mem _ (List.mem_append_left _ (List.mem_append_right _ h))
set_option maxRecDepth 100000 in
set_option maxHeartbeats 4000000 in
theorem c_X4_letterAt (hI : Inj 490 ad) {x1 : Int32} {w : Wd} {out : Int32} (hf : m_X4_letterAt x1 w = some out) : Met l yX4_letterAt wsX4_letterAt rmX4_letterAt (va_Pc [.ref (ad 479), .int x1] (PW D (tC cI cL cS) 490 ad (cellC cI cL cS ad) w)) (QWi D 490 ad (cellC cI cL cS ad) out w) 0 0 (AW 490 ad) := by
  refine mk_met (maxL := 2) (ret := (some .int)) RX4 hI (by decide) rfl rfl (Nat.le_of_ble_eq_true rfl) rfl rfl (fun p e s m args below meth c X Y => ?_)
  unfold m_X4_letterAt at hf
  refine j_aload_n X 0 dX4_letterAt_0 rfl rfl ?_
  refine j_get (ref := "ProxyVersions$Script") (index := 14) (v := .ref (ad 484)) X oSc inX4_letterAt_X4 rfl 0 (by decide) (List.mem_of_getElem? (i := 1) rfl) rfl rfl dX4_letterAt_1 ?_
  refine j_iload_n X 1 dX4_letterAt_4 rfl rfl ?_
  obtain ⟨o1, ho1, hf⟩ := f_bd hf
  refine j_callVi X (oLn ln484) rfl rfl [.int x1] (c_X2_at X.2.2.2.2.2.2.2 ln484 ho1) (cwV 1 X.2.2.2.2.1 gX4_letterAt_X2_at rfl rfl rfl (by decide +kernel) ⟨Nat.le_of_ble_eq_true rfl, Nat.le_of_ble_eq_true rfl⟩) rfl rfl (Nat.le_of_ble_eq_true rfl) dX4_letterAt_5 ?_
  exact j_iret X Y (f_s hf) rfl dX4_letterAt_8
abbrev rmX4_numberAt : Room := { frames := 1, cells := 0, slots := 0, locals := 21 }
theorem inX4_numberAt_X4 : ∀ w ∈ wsX40, w ∈ wsX4_numberAt := fun _ h => List.mem_cons_of_mem _ (List.mem_append_left _ (List.mem_append_right _ h))
set_option maxRecDepth 100000 in
set_option maxHeartbeats 4000000 in
theorem c_X4_numberAt (hI : Inj 490 ad) {x1 : Int32} {w : Wd} {out : Int32} (hf : m_X4_numberAt x1 w = some out) : Met l yX4_numberAt wsX4_numberAt rmX4_numberAt (va_Pc [.ref (ad 479), .int x1] (PW D (tC cI cL cS) 490 ad (cellC cI cL cS ad) w)) (QWi D 490 ad (cellC cI cL cS ad) out w) 0 0 (AW 490 ad) := by
  refine mk_met (maxL := 2) (ret := (some .int)) RX4 hI (by decide) rfl rfl (Nat.le_of_ble_eq_true rfl) rfl rfl (fun p e s m args below meth c X Y => ?_)
  unfold m_X4_numberAt at hf
  refine j_aload_n X 0 dX4_numberAt_0 rfl rfl ?_
  refine j_get (ref := "ProxyVersions$Script") (index := 20) (v := .ref (ad 486)) X oSc inX4_numberAt_X4 rfl 1 (by decide) (List.mem_of_getElem? (i := 1) rfl) rfl rfl dX4_numberAt_1 ?_
  refine j_iload_n X 1 dX4_numberAt_4 rfl rfl ?_
  obtain ⟨o1, ho1, hf⟩ := f_bd hf
  refine j_callVi X (oLn ln486) rfl rfl [.int x1] (c_X2_at X.2.2.2.2.2.2.2 ln486 ho1) (cwV 1 X.2.2.2.2.1 gX4_numberAt_X2_at rfl rfl rfl (by decide +kernel) ⟨Nat.le_of_ble_eq_true rfl, Nat.le_of_ble_eq_true rfl⟩) rfl rfl (Nat.le_of_ble_eq_true rfl) dX4_numberAt_5 ?_
  exact j_iret X Y (f_s hf) rfl dX4_numberAt_8
abbrev rmX4_countAt : Room := { frames := 1, cells := 0, slots := 0, locals := 21 }
theorem inX4_countAt_X4 : ∀ w ∈ wsX40, w ∈ wsX4_countAt := fun _ h => List.mem_cons_of_mem _ (List.mem_append_left _ (List.mem_append_right _ h))
set_option maxRecDepth 100000 in
set_option maxHeartbeats 4000000 in
theorem c_X4_countAt (hI : Inj 490 ad) {x1 : Int32} {w : Wd} {out : Int32} (hf : m_X4_countAt x1 w = some out) : Met l yX4_countAt wsX4_countAt rmX4_countAt (va_Pc [.ref (ad 479), .int x1] (PW D (tC cI cL cS) 490 ad (cellC cI cL cS ad) w)) (QWi D 490 ad (cellC cI cL cS ad) out w) 0 0 (AW 490 ad) := by
  refine mk_met (maxL := 2) (ret := (some .int)) RX4 hI (by decide) rfl rfl (Nat.le_of_ble_eq_true rfl) rfl rfl (fun p e s m args below meth c X Y => ?_)
  unfold m_X4_countAt at hf
  refine j_aload_n X 0 dX4_countAt_0 rfl rfl ?_
  refine j_get (ref := "ProxyVersions$Script") (index := 23) (v := .ref (ad 488)) X oSc inX4_countAt_X4 rfl 2 (by decide) (List.mem_of_getElem? (i := 1) rfl) rfl rfl dX4_countAt_1 ?_
  refine j_iload_n X 1 dX4_countAt_4 rfl rfl ?_
  obtain ⟨o1, ho1, hf⟩ := f_bd hf
  refine j_callVi X (oLn ln488) rfl rfl [.int x1] (c_X2_at X.2.2.2.2.2.2.2 ln488 ho1) (cwV 1 X.2.2.2.2.1 gX4_countAt_X2_at rfl rfl rfl (by decide +kernel) ⟨Nat.le_of_ble_eq_true rfl, Nat.le_of_ble_eq_true rfl⟩) rfl rfl (Nat.le_of_ble_eq_true rfl) dX4_countAt_5 ?_
  exact j_iret X Y (f_s hf) rfl dX4_countAt_8
abbrev rmX4_standsAlone : Room := { frames := 0, cells := 0, slots := 0, locals := 0 }
set_option maxRecDepth 100000 in
set_option maxHeartbeats 4000000 in
theorem t_X4_standsAlone_j12 (X : CX p rmX4_standsAlone s m args c cX4_standsAlone 1 RX4 wsX4_standsAlone D (tC cI cL cS) 490 ad) (Y : RX meth (some .boolean)) {w : Wd} {out : Int32} (hf : m_X4_standsAlone_j12 = some out) : WJ p l e rmX4_standsAlone s m args below meth c (MQ below (QWi D 490 ad (cellC cI cL cS ad) out w) args s 0 0 (AW 490 ad)) 1 D 490 ad (cellC cI cL cS ad) w 12 [] [] := by
  unfold m_X4_standsAlone_j12 at hf
  refine j_iconst X (v := (1 : Int32)) rfl dX4_standsAlone_12 ?_
  refine j_goto (tgt := 17) X dX4_standsAlone_13 (by decide) ?_
  exact j_bret X Y (Eq.trans (by decide : (1 : Int32) &&& 1 = (1 : Int32)) (f_s hf)) rfl dX4_standsAlone_17
set_option maxRecDepth 100000 in
set_option maxHeartbeats 4000000 in
theorem c_X4_standsAlone (hI : Inj 490 ad) {x0 : Int32} {w : Wd} {out : Int32} (hf : m_X4_standsAlone x0 = some out) : Met l yX4_standsAlone wsX4_standsAlone rmX4_standsAlone (va_Pc [.int x0] (PW D (tC cI cL cS) 490 ad (cellC cI cL cS ad) w)) (QWi D 490 ad (cellC cI cL cS ad) out w) 0 0 (AW 490 ad) := by
  refine mk_met (maxL := 1) (ret := (some .boolean)) RX4 hI (by decide) rfl rfl (Nat.le_of_ble_eq_true rfl) rfl rfl (fun p e s m args below meth c X Y => ?_)
  unfold m_X4_standsAlone at hf
  refine j_iload_n X 0 dX4_standsAlone_0 rfl rfl ?_
  refine j_bipush X (v := (119 : Int32)) (by decide) dX4_standsAlone_1 ?_
  refine j_icmp_eq (tgt := 12) X dX4_standsAlone_3 (by decide) (fun c => ?_) (fun c => ?_)
  · replace hf := f_t c hf
    refine j_sub [] rfl ?_
    exact t_X4_standsAlone_j12 X Y hf
  replace hf := f_f c hf
  refine j_iload_n X 0 dX4_standsAlone_6 rfl rfl ?_
  refine j_bipush X (v := (97 : Int32)) (by decide) dX4_standsAlone_7 ?_
  refine j_icmp_ne (tgt := 16) X dX4_standsAlone_9 (by decide) (fun c => ?_) (fun c => ?_)
  · replace hf := f_t c hf
    refine j_iconst X (v := (0 : Int32)) rfl dX4_standsAlone_16 ?_
    exact j_bret X Y (Eq.trans (by decide : (0 : Int32) &&& 1 = (0 : Int32)) (f_s hf)) rfl dX4_standsAlone_17
  replace hf := f_fn c hf
  refine j_sub [] rfl ?_
  exact t_X4_standsAlone_j12 X Y hf
abbrev rmX4_namesQueue : Room := { frames := 0, cells := 0, slots := 0, locals := 0 }
set_option maxRecDepth 100000 in
set_option maxHeartbeats 4000000 in
theorem t_X4_namesQueue_j24 (X : CX p rmX4_namesQueue s m args c cX4_namesQueue 1 RX4 wsX4_namesQueue D (tC cI cL cS) 490 ad) (Y : RX meth (some .boolean)) {w : Wd} {out : Int32} (hf : m_X4_namesQueue_j24 = some out) : WJ p l e rmX4_namesQueue s m args below meth c (MQ below (QWi D 490 ad (cellC cI cL cS ad) out w) args s 0 0 (AW 490 ad)) 1 D 490 ad (cellC cI cL cS ad) w 24 [] [] := by
  unfold m_X4_namesQueue_j24 at hf
  refine j_iconst X (v := (1 : Int32)) rfl dX4_namesQueue_24 ?_
  refine j_goto (tgt := 29) X dX4_namesQueue_25 (by decide) ?_
  exact j_bret X Y (Eq.trans (by decide : (1 : Int32) &&& 1 = (1 : Int32)) (f_s hf)) rfl dX4_namesQueue_29
set_option maxRecDepth 100000 in
set_option maxHeartbeats 4000000 in
theorem c_X4_namesQueue (hI : Inj 490 ad) {x0 : Int32} {w : Wd} {out : Int32} (hf : m_X4_namesQueue x0 = some out) : Met l yX4_namesQueue wsX4_namesQueue rmX4_namesQueue (va_Pc [.int x0] (PW D (tC cI cL cS) 490 ad (cellC cI cL cS ad) w)) (QWi D 490 ad (cellC cI cL cS ad) out w) 0 0 (AW 490 ad) := by
  refine mk_met (maxL := 1) (ret := (some .boolean)) RX4 hI (by decide) rfl rfl (Nat.le_of_ble_eq_true rfl) rfl rfl (fun p e s m args below meth c X Y => ?_)
  unfold m_X4_namesQueue at hf
  refine j_iload_n X 0 dX4_namesQueue_0 rfl rfl ?_
  refine j_bipush X (v := (117 : Int32)) (by decide) dX4_namesQueue_1 ?_
  refine j_icmp_eq (tgt := 24) X dX4_namesQueue_3 (by decide) (fun c => ?_) (fun c => ?_)
  · replace hf := f_t c hf
    refine j_sub [] rfl ?_
    exact t_X4_namesQueue_j24 X Y hf
  replace hf := f_f c hf
  refine j_iload_n X 0 dX4_namesQueue_6 rfl rfl ?_
  refine j_bipush X (v := (100 : Int32)) (by decide) dX4_namesQueue_7 ?_
  refine j_icmp_eq (tgt := 24) X dX4_namesQueue_9 (by decide) (fun c => ?_) (fun c => ?_)
  · replace hf := f_t c hf
    refine j_sub [] rfl ?_
    exact t_X4_namesQueue_j24 X Y hf
  replace hf := f_f c hf
  refine j_iload_n X 0 dX4_namesQueue_12 rfl rfl ?_
  refine j_bipush X (v := (120 : Int32)) (by decide) dX4_namesQueue_13 ?_
  refine j_icmp_eq (tgt := 24) X dX4_namesQueue_15 (by decide) (fun c => ?_) (fun c => ?_)
  · replace hf := f_t c hf
    refine j_sub [] rfl ?_
    exact t_X4_namesQueue_j24 X Y hf
  replace hf := f_f c hf
  refine j_iload_n X 0 dX4_namesQueue_18 rfl rfl ?_
  refine j_bipush X (v := (121 : Int32)) (by decide) dX4_namesQueue_19 ?_
  refine j_icmp_ne (tgt := 28) X dX4_namesQueue_21 (by decide) (fun c => ?_) (fun c => ?_)
  · replace hf := f_t c hf
    refine j_iconst X (v := (0 : Int32)) rfl dX4_namesQueue_28 ?_
    exact j_bret X Y (Eq.trans (by decide : (0 : Int32) &&& 1 = (0 : Int32)) (f_s hf)) rfl dX4_namesQueue_29
  replace hf := f_fn c hf
  refine j_sub [] rfl ?_
  exact t_X4_namesQueue_j24 X Y hf
abbrev rmX4_takeLetter : Room := { frames := 1, cells := 0, slots := 0, locals := 21 }
theorem inX4_takeLetter_X4 : ∀ w ∈ wsX40, w ∈ wsX4_takeLetter := fun _ h => List.mem_cons_of_mem _ (List.mem_append_left _ (List.mem_append_right _ h))
set_option maxRecDepth 100000 in
set_option maxHeartbeats 4000000 in
theorem t_X4_takeLetter_j14 (X : CX p rmX4_takeLetter s m args c cX4_takeLetter 2 RX4 wsX4_takeLetter D (tC cI cL cS) 490 ad) (Y : RX meth (some .boolean)) {x1 : Int32} {w : Wd} {out : Int32 × Wd} (hf : m_X4_takeLetter_j14 x1 w = some out) : WJ p l e rmX4_takeLetter s m args below meth c (MQ below (QWi D 490 ad (cellC cI cL cS ad) out.1 out.2) args s 0 0 (AW 490 ad)) 2 D 490 ad (cellC cI cL cS ad) w 14 [(0, .ref (ad 479)), (1, .int x1)] [] := by
  unfold m_X4_takeLetter_j14 at hf
  refine j_aload_n X 0 dX4_takeLetter_14 rfl rfl ?_
  refine j_get (ref := "ProxyVersions$Script") (index := 14) (v := .ref (ad 484)) X oSc inX4_takeLetter_X4 rfl 0 (by decide) (List.mem_of_getElem? (i := 1) rfl) rfl rfl dX4_takeLetter_15 ?_
  refine j_iload_n X 1 dX4_takeLetter_18 rfl rfl ?_
  obtain ⟨o1, ho1, hf⟩ := f_bd hf
  refine j_callVi X (oLn ln484) rfl rfl [.int x1] (c_X2_append X.2.2.2.2.2.2.2 ln484 ho1) (cwV 1 X.2.2.2.2.1 gX4_takeLetter_X2_append rfl rfl rfl (by decide +kernel) ⟨Nat.le_of_ble_eq_true rfl, Nat.le_of_ble_eq_true rfl⟩) rfl rfl (Nat.le_of_ble_eq_true rfl) dX4_takeLetter_19 ?_
  refine j_if_eq (tgt := 29) X dX4_takeLetter_22 (by decide) (fun c => ?_) (fun c => ?_)
  · replace hf := f_t c hf
    refine j_iconst X (v := (0 : Int32)) rfl dX4_takeLetter_29 ?_
    exact j_bret X Y (Eq.trans (by decide : (0 : Int32) &&& 1 = (0 : Int32)) (congrArg Prod.fst (f_s hf))) (congrArg Prod.snd (f_s hf)) dX4_takeLetter_30
  replace hf := f_f c hf
  refine j_iconst X (v := (1 : Int32)) rfl dX4_takeLetter_25 ?_
  refine j_goto (tgt := 30) X dX4_takeLetter_26 (by decide) ?_
  exact j_bret X Y (Eq.trans (by decide : (1 : Int32) &&& 1 = (1 : Int32)) (congrArg Prod.fst (f_s hf))) (congrArg Prod.snd (f_s hf)) dX4_takeLetter_30
set_option maxRecDepth 100000 in
set_option maxHeartbeats 4000000 in
theorem c_X4_takeLetter (hI : Inj 490 ad) {x1 : Int32} {w : Wd} {out : Int32 × Wd} (hf : m_X4_takeLetter x1 w = some out) : Met l yX4_takeLetter wsX4_takeLetter rmX4_takeLetter (va_Pc [.ref (ad 479), .int x1] (PW D (tC cI cL cS) 490 ad (cellC cI cL cS ad) w)) (QWi D 490 ad (cellC cI cL cS ad) out.1 out.2) 0 0 (AW 490 ad) := by
  refine mk_met (maxL := 2) (ret := (some .boolean)) RX4 hI (by decide) rfl rfl (Nat.le_of_ble_eq_true rfl) rfl rfl (fun p e s m args below meth c X Y => ?_)
  unfold m_X4_takeLetter at hf
  refine j_iload_n X 1 dX4_takeLetter_0 rfl rfl ?_
  obtain ⟨o1, ho1, hf⟩ := f_bd hf
  refine j_callSi X [.int x1] (c_X4_standsAlone X.2.2.2.2.2.2.2 ho1) (va_cwS 1 X.2.2.2.2.1 gX4_takeLetter_X4_standsAlone rfl rfl rfl (by decide +kernel) ⟨Nat.le_of_ble_eq_true rfl, Nat.le_of_ble_eq_true rfl⟩) rfl rfl (Nat.le_of_ble_eq_true rfl) dX4_takeLetter_1 ?_
  refine j_if_ne (tgt := 14) X dX4_takeLetter_4 (by decide) (fun c => ?_) (fun c => ?_)
  · replace hf := f_t c hf
    exact t_X4_takeLetter_j14 X Y hf
  replace hf := f_fn c hf
  refine j_iload_n X 1 dX4_takeLetter_7 rfl rfl ?_
  obtain ⟨o2, ho2, hf⟩ := f_bd hf
  refine j_callSi X [.int x1] (c_X4_namesQueue X.2.2.2.2.2.2.2 ho2) (va_cwS 1 X.2.2.2.2.1 gX4_takeLetter_X4_namesQueue rfl rfl rfl (by decide +kernel) ⟨Nat.le_of_ble_eq_true rfl, Nat.le_of_ble_eq_true rfl⟩) rfl rfl (Nat.le_of_ble_eq_true rfl) dX4_takeLetter_8 ?_
  refine j_if_eq (tgt := 29) X dX4_takeLetter_11 (by decide) (fun c => ?_) (fun c => ?_)
  · replace hf := f_t c hf
    refine j_iconst X (v := (0 : Int32)) rfl dX4_takeLetter_29 ?_
    exact j_bret X Y (Eq.trans (by decide : (0 : Int32) &&& 1 = (0 : Int32)) (congrArg Prod.fst (f_s hf))) (congrArg Prod.snd (f_s hf)) dX4_takeLetter_30
  replace hf := f_f c hf
  exact t_X4_takeLetter_j14 X Y hf
abbrev rmX4_takeNumber : Room := { frames := 1, cells := 0, slots := 0, locals := 21 }
theorem inX4_takeNumber_X4 : ∀ w ∈ wsX40, w ∈ wsX4_takeNumber := fun _ h => List.mem_cons_of_mem _ (List.mem_append_left _ (List.mem_append_right _ h))
set_option maxRecDepth 100000 in
set_option maxHeartbeats 4000000 in
theorem t_X4_takeNumber_j74 (X : CX p rmX4_takeNumber s m args c cX4_takeNumber 6 RX4 wsX4_takeNumber D (tC cI cL cS) 490 ad) (Y : RX meth (some .boolean)) {x1 : Int32} {w : Wd} {out : Int32 × Wd} (hf : m_X4_takeNumber_j74 x1 w = some out) : WJ p l e rmX4_takeNumber s m args below meth c (MQ below (QWi D 490 ad (cellC cI cL cS ad) out.1 out.2) args s 0 0 (AW 490 ad)) 6 D 490 ad (cellC cI cL cS ad) w 74 [(0, .ref (ad 479)), (1, .int x1)] [] := by
  unfold m_X4_takeNumber_j74 at hf
  refine j_aload_n X 0 dX4_takeNumber_74 rfl rfl ?_
  refine j_get (ref := "ProxyVersions$Script") (index := 20) (v := .ref (ad 486)) X oSc inX4_takeNumber_X4 rfl 1 (by decide) (List.mem_of_getElem? (i := 3) rfl) rfl rfl dX4_takeNumber_75 ?_
  refine j_iload_n X 1 dX4_takeNumber_78 rfl rfl ?_
  obtain ⟨o1, ho1, hf⟩ := f_bd hf
  refine j_callVi X (oLn ln486) rfl rfl [.int x1] (c_X2_append X.2.2.2.2.2.2.2 ln486 ho1) (cwV 1 X.2.2.2.2.1 gX4_takeNumber_X2_append rfl rfl rfl (by decide +kernel) ⟨Nat.le_of_ble_eq_true rfl, Nat.le_of_ble_eq_true rfl⟩) rfl rfl (Nat.le_of_ble_eq_true rfl) dX4_takeNumber_79 ?_
  exact j_bret X Y (congrArg Prod.fst (f_s hf)) (congrArg Prod.snd (f_s hf)) dX4_takeNumber_82
set_option maxRecDepth 100000 in
set_option maxHeartbeats 4000000 in
theorem t_X4_takeNumber_j42 (X : CX p rmX4_takeNumber s m args c cX4_takeNumber 6 RX4 wsX4_takeNumber D (tC cI cL cS) 490 ad) (Y : RX meth (some .boolean)) {x1 : Int32} {x3 : Int32} {x4 : Int32} {s0 : Int32} {w : Wd} {out : Int32 × Wd} (hf : m_X4_takeNumber_j42 x1 x3 x4 s0 w = some out) : WJ p l e rmX4_takeNumber s m args below meth c (MQ below (QWi D 490 ad (cellC cI cL cS ad) out.1 out.2) args s 0 0 (AW 490 ad)) 6 D 490 ad (cellC cI cL cS ad) w 42 [(0, .ref (ad 479)), (1, .int x1), (3, .int x3), (4, .int x4)] [.int s0] := by
  unfold m_X4_takeNumber_j42 at hf
  refine j_istore (lv' := [(0, .ref (ad 479)), (1, .int x1), (3, .int x3), (4, .int x4), (5, .int s0)]) X dX4_takeNumber_42 (by decide) rfl ?_
  refine j_iload_n X 1 dX4_takeNumber_44 rfl rfl ?_
  refine j_iload X 3 dX4_takeNumber_45 rfl ?_
  refine j_icmp_lt (tgt := 56) X dX4_takeNumber_47 (by decide) (fun c => ?_) (fun c => ?_)
  · replace hf := f_t c hf
    refine j_iconst X (v := (0 : Int32)) rfl dX4_takeNumber_56 ?_
    exact j_bret X Y (Eq.trans (by decide : (0 : Int32) &&& 1 = (0 : Int32)) (congrArg Prod.fst (f_s hf))) (congrArg Prod.snd (f_s hf)) dX4_takeNumber_57
  replace hf := f_f c hf
  refine j_iload_n X 1 dX4_takeNumber_50 rfl rfl ?_
  refine j_iload X 4 dX4_takeNumber_51 rfl ?_
  refine j_icmp_lt (tgt := 58) X dX4_takeNumber_53 (by decide) (fun c => ?_) (fun c => ?_)
  · replace hf := f_t c hf
    refine j_iload_n X 2 dX4_takeNumber_58 rfl rfl ?_
    obtain ⟨o1, ho1, hf⟩ := f_bd hf
    refine j_callSi X [.int x3] (c_X4_standsAlone X.2.2.2.2.2.2.2 ho1) (va_cwS 1 X.2.2.2.2.1 gX4_takeNumber_X4_standsAlone rfl rfl rfl (by decide +kernel) ⟨Nat.le_of_ble_eq_true rfl, Nat.le_of_ble_eq_true rfl⟩) rfl rfl (Nat.le_of_ble_eq_true rfl) dX4_takeNumber_59 ?_
    refine j_if_eq (tgt := 74) X dX4_takeNumber_62 (by decide) (fun c => ?_) (fun c => ?_)
    · replace hf := f_t c hf
      refine j_sub [0, 1] rfl ?_
      exact t_X4_takeNumber_j74 X Y hf
    replace hf := f_f c hf
    refine j_aload_n X 0 dX4_takeNumber_65 rfl rfl ?_
    refine j_get (ref := "ProxyVersions$Script") (index := 23) (v := .ref (ad 488)) X oSc inX4_takeNumber_X4 rfl 2 (by decide) (List.mem_of_getElem? (i := 2) rfl) rfl rfl dX4_takeNumber_66 ?_
    refine j_iconst X (v := (0 : Int32)) rfl dX4_takeNumber_69 ?_
    obtain ⟨o2, ho2, hf⟩ := f_bd hf
    refine j_callVi X (oLn ln488) rfl rfl [.int (0 : Int32)] (c_X2_append X.2.2.2.2.2.2.2 ln488 ho2) (cwV 1 X.2.2.2.2.1 gX4_takeNumber_X2_append rfl rfl rfl (by decide +kernel) ⟨Nat.le_of_ble_eq_true rfl, Nat.le_of_ble_eq_true rfl⟩) rfl rfl (Nat.le_of_ble_eq_true rfl) dX4_takeNumber_70 ?_
    refine j_pop X rfl dX4_takeNumber_73 ?_
    refine j_sub [0, 1] rfl ?_
    exact t_X4_takeNumber_j74 X Y hf
  replace hf := f_f c hf
  refine j_iconst X (v := (0 : Int32)) rfl dX4_takeNumber_56 ?_
  exact j_bret X Y (Eq.trans (by decide : (0 : Int32) &&& 1 = (0 : Int32)) (congrArg Prod.fst (f_s hf))) (congrArg Prod.snd (f_s hf)) dX4_takeNumber_57
set_option maxRecDepth 100000 in
set_option maxHeartbeats 4000000 in
theorem t_X4_takeNumber_j29 (X : CX p rmX4_takeNumber s m args c cX4_takeNumber 6 RX4 wsX4_takeNumber D (tC cI cL cS) 490 ad) (Y : RX meth (some .boolean)) {x1 : Int32} {x2 : Int32} {x3 : Int32} {s0 : Int32} {w : Wd} {out : Int32 × Wd} (hf : m_X4_takeNumber_j29 x1 x2 x3 s0 w = some out) : WJ p l e rmX4_takeNumber s m args below meth c (MQ below (QWi D 490 ad (cellC cI cL cS ad) out.1 out.2) args s 0 0 (AW 490 ad)) 6 D 490 ad (cellC cI cL cS ad) w 29 [(0, .ref (ad 479)), (1, .int x1), (2, .int x2), (3, .int x3)] [.int s0] := by
  unfold m_X4_takeNumber_j29 at hf
  refine j_istore (lv' := [(0, .ref (ad 479)), (1, .int x1), (2, .int x2), (3, .int x3), (4, .int s0)]) X dX4_takeNumber_29 (by decide) rfl ?_
  refine j_iload_n X 3 dX4_takeNumber_31 rfl rfl ?_
  refine j_bipush X (v := (119 : Int32)) (by decide) dX4_takeNumber_32 ?_
  refine j_icmp_ne (tgt := 41) X dX4_takeNumber_34 (by decide) (fun c => ?_) (fun c => ?_)
  · replace hf := f_t c hf
    refine j_iload_n X 2 dX4_takeNumber_41 rfl rfl ?_
    refine j_sub [0, 1, 3, 4] rfl ?_
    exact t_X4_takeNumber_j42 X Y hf
  replace hf := f_fn c hf
  refine j_iconst X (v := (4 : Int32)) rfl dX4_takeNumber_37 ?_
  refine j_goto (tgt := 42) X dX4_takeNumber_38 (by decide) ?_
  refine j_sub [0, 1, 3, 4] rfl ?_
  exact t_X4_takeNumber_j42 X Y hf
set_option maxRecDepth 100000 in
set_option maxHeartbeats 4000000 in
theorem c_X4_takeNumber (hI : Inj 490 ad) {x1 : Int32} {x2 : Int32} {w : Wd} {out : Int32 × Wd} (hf : m_X4_takeNumber x1 x2 w = some out) : Met l yX4_takeNumber wsX4_takeNumber rmX4_takeNumber (va_Pc [.ref (ad 479), .int x1, .int x2] (PW D (tC cI cL cS) 490 ad (cellC cI cL cS ad) w)) (QWi D 490 ad (cellC cI cL cS ad) out.1 out.2) 0 0 (AW 490 ad) := by
  refine mk_met (maxL := 6) (ret := (some .boolean)) RX4 hI (by decide) rfl rfl (Nat.le_of_ble_eq_true rfl) rfl rfl (fun p e s m args below meth c X Y => ?_)
  unfold m_X4_takeNumber at hf
  refine j_aload_n X 0 dX4_takeNumber_0 rfl rfl ?_
  refine j_get (ref := "ProxyVersions$Script") (index := 14) (v := .ref (ad 484)) X oSc inX4_takeNumber_X4 rfl 0 (by decide) (List.mem_of_getElem? (i := 1) rfl) rfl rfl dX4_takeNumber_1 ?_
  refine j_aload_n X 0 dX4_takeNumber_4 rfl rfl ?_
  refine j_get (ref := "ProxyVersions$Script") (index := 14) (v := .ref (ad 484)) X oSc inX4_takeNumber_X4 rfl 0 (by decide) (List.mem_of_getElem? (i := 1) rfl) rfl rfl dX4_takeNumber_5 ?_
  obtain ⟨o1, ho1, hf⟩ := f_bd hf
  refine j_callVi X (oLn ln484) rfl rfl [] (c_X2_length X.2.2.2.2.2.2.2 ln484 ho1) (cwV 0 X.2.2.2.2.1 gX4_takeNumber_X2_length rfl rfl rfl (by decide +kernel) ⟨Nat.le_of_ble_eq_true rfl, Nat.le_of_ble_eq_true rfl⟩) rfl rfl (Nat.le_of_ble_eq_true rfl) dX4_takeNumber_8 ?_
  refine j_iconst X (v := (1 : Int32)) rfl dX4_takeNumber_11 ?_
  refine j_isub X dX4_takeNumber_12 ?_
  obtain ⟨o2, ho2, hf⟩ := f_bd hf
  refine j_callVi X (oLn ln484) rfl rfl [.int (o1 - (1 : Int32))] (c_X2_at X.2.2.2.2.2.2.2 ln484 ho2) (cwV 1 X.2.2.2.2.1 gX4_takeNumber_X2_at rfl rfl rfl (by decide +kernel) ⟨Nat.le_of_ble_eq_true rfl, Nat.le_of_ble_eq_true rfl⟩) rfl rfl (Nat.le_of_ble_eq_true rfl) dX4_takeNumber_13 ?_
  refine j_istore_n (lv' := [(0, .ref (ad 479)), (1, .int x1), (2, .int x2), (3, .int o2)]) X dX4_takeNumber_16 rfl (by decide) rfl ?_
  refine j_iload_n X 3 dX4_takeNumber_17 rfl rfl ?_
  obtain ⟨o3, ho3, hf⟩ := f_bd hf
  refine j_callSi X [.int o2] (c_X4_namesQueue X.2.2.2.2.2.2.2 ho3) (va_cwS 1 X.2.2.2.2.1 gX4_takeNumber_X4_namesQueue rfl rfl rfl (by decide +kernel) ⟨Nat.le_of_ble_eq_true rfl, Nat.le_of_ble_eq_true rfl⟩) rfl rfl (Nat.le_of_ble_eq_true rfl) dX4_takeNumber_18 ?_
  refine j_if_eq (tgt := 28) X dX4_takeNumber_21 (by decide) (fun c => ?_) (fun c => ?_)
  · replace hf := f_t c hf
    refine j_iconst X (v := (0 : Int32)) rfl dX4_takeNumber_28 ?_
    exact t_X4_takeNumber_j29 X Y hf
  replace hf := f_f c hf
  refine j_iconst X (v := (1 : Int32)) rfl dX4_takeNumber_24 ?_
  refine j_goto (tgt := 29) X dX4_takeNumber_25 (by decide) ?_
  exact t_X4_takeNumber_j29 X Y hf
abbrev rmX4_takeCount : Room := { frames := 1, cells := 0, slots := 0, locals := 21 }
theorem inX4_takeCount_X4 : ∀ w ∈ wsX40, w ∈ wsX4_takeCount := fun _ h => List.mem_cons_of_mem _ (List.mem_append_left _ (List.mem_append_right _ h))
set_option maxRecDepth 100000 in
set_option maxHeartbeats 4000000 in
theorem c_X4_takeCount (hI : Inj 490 ad) {x1 : Int32} {w : Wd} {out : Int32 × Wd} (hf : m_X4_takeCount x1 w = some out) : Met l yX4_takeCount wsX4_takeCount rmX4_takeCount (va_Pc [.ref (ad 479), .int x1] (PW D (tC cI cL cS) 490 ad (cellC cI cL cS ad) w)) (QWi D 490 ad (cellC cI cL cS ad) out.1 out.2) 0 0 (AW 490 ad) := by
  refine mk_met (maxL := 2) (ret := (some .boolean)) RX4 hI (by decide) rfl rfl (Nat.le_of_ble_eq_true rfl) rfl rfl (fun p e s m args below meth c X Y => ?_)
  unfold m_X4_takeCount at hf
  refine j_iload_n X 1 dX4_takeCount_0 rfl rfl ?_
  refine j_iconst X (v := (1 : Int32)) rfl dX4_takeCount_1 ?_
  refine j_icmp_lt (tgt := 26) X dX4_takeCount_2 (by decide) (fun c => ?_) (fun c => ?_)
  · replace hf := f_t c hf
    refine j_iconst X (v := (0 : Int32)) rfl dX4_takeCount_26 ?_
    exact j_bret X Y (Eq.trans (by decide : (0 : Int32) &&& 1 = (0 : Int32)) (congrArg Prod.fst (f_s hf))) (congrArg Prod.snd (f_s hf)) dX4_takeCount_27
  replace hf := f_f c hf
  refine j_iload_n X 1 dX4_takeCount_5 rfl rfl ?_
  refine j_bipush X (v := (9 : Int32)) (by decide) dX4_takeCount_6 ?_
  refine j_icmp_gt (tgt := 26) X dX4_takeCount_8 (by decide) (fun c => ?_) (fun c => ?_)
  · replace hf := f_t c hf
    refine j_iconst X (v := (0 : Int32)) rfl dX4_takeCount_26 ?_
    exact j_bret X Y (Eq.trans (by decide : (0 : Int32) &&& 1 = (0 : Int32)) (congrArg Prod.fst (f_s hf))) (congrArg Prod.snd (f_s hf)) dX4_takeCount_27
  replace hf := f_f c hf
  refine j_aload_n X 0 dX4_takeCount_11 rfl rfl ?_
  refine j_get (ref := "ProxyVersions$Script") (index := 23) (v := .ref (ad 488)) X oSc inX4_takeCount_X4 rfl 2 (by decide) (List.mem_of_getElem? (i := 1) rfl) rfl rfl dX4_takeCount_12 ?_
  refine j_iload_n X 1 dX4_takeCount_15 rfl rfl ?_
  obtain ⟨o1, ho1, hf⟩ := f_bd hf
  refine j_callVi X (oLn ln488) rfl rfl [.int x1] (c_X2_append X.2.2.2.2.2.2.2 ln488 ho1) (cwV 1 X.2.2.2.2.1 gX4_takeCount_X2_append rfl rfl rfl (by decide +kernel) ⟨Nat.le_of_ble_eq_true rfl, Nat.le_of_ble_eq_true rfl⟩) rfl rfl (Nat.le_of_ble_eq_true rfl) dX4_takeCount_16 ?_
  refine j_if_eq (tgt := 26) X dX4_takeCount_19 (by decide) (fun c => ?_) (fun c => ?_)
  · replace hf := f_t c hf
    refine j_iconst X (v := (0 : Int32)) rfl dX4_takeCount_26 ?_
    exact j_bret X Y (Eq.trans (by decide : (0 : Int32) &&& 1 = (0 : Int32)) (congrArg Prod.fst (f_s hf))) (congrArg Prod.snd (f_s hf)) dX4_takeCount_27
  replace hf := f_f c hf
  refine j_iconst X (v := (1 : Int32)) rfl dX4_takeCount_22 ?_
  refine j_goto (tgt := 27) X dX4_takeCount_23 (by decide) ?_
  exact j_bret X Y (Eq.trans (by decide : (1 : Int32) &&& 1 = (1 : Int32)) (congrArg Prod.fst (f_s hf))) (congrArg Prod.snd (f_s hf)) dX4_takeCount_27
abbrev rmX4_takeSign : Room := { frames := 2, cells := 0, slots := 0, locals := 46 }
theorem inX4_takeSign_X4 : ∀ w ∈ wsX40, w ∈ wsX4_takeSign := fun _ h => List.mem_cons_of_mem _ (List.mem_append_left _ (List.mem_append_right _ h))
set_option maxRecDepth 100000 in
set_option maxHeartbeats 4000000 in
theorem c_X4_takeSign (hI : Inj 490 ad) {x1 : Int32} {x2 : Int32} {w : Wd} {out : Int32 × Wd} (hf : m_X4_takeSign x1 x2 w = some out) : Met l yX4_takeSign wsX4_takeSign rmX4_takeSign (va_Pc [.ref (ad 479), .int x1, .int x2] (PW D (tC cI cL cS) 490 ad (cellC cI cL cS ad) w)) (QWi D 490 ad (cellC cI cL cS ad) out.1 out.2) 0 0 (AW 490 ad) := by
  refine mk_met (maxL := 3) (ret := (some .boolean)) RX4 hI (by decide) rfl rfl (Nat.le_of_ble_eq_true rfl) rfl rfl (fun p e s m args below meth c X Y => ?_)
  unfold m_X4_takeSign at hf
  refine j_aload_n X 0 dX4_takeSign_0 rfl rfl ?_
  refine j_get (ref := "ProxyVersions$Script") (index := 23) (v := .ref (ad 488)) X oSc inX4_takeSign_X4 rfl 2 (by decide) (List.mem_of_getElem? (i := 1) rfl) rfl rfl dX4_takeSign_1 ?_
  obtain ⟨o1, ho1, hf⟩ := f_bd hf
  refine j_callVi X (oLn ln488) rfl rfl [] (c_X2_length X.2.2.2.2.2.2.2 ln488 ho1) (cwV 0 X.2.2.2.2.1 gX4_takeSign_X2_length rfl rfl rfl (by decide +kernel) ⟨Nat.le_of_ble_eq_true rfl, Nat.le_of_ble_eq_true rfl⟩) rfl rfl (Nat.le_of_ble_eq_true rfl) dX4_takeSign_4 ?_
  refine j_aload_n X 0 dX4_takeSign_7 rfl rfl ?_
  refine j_get (ref := "ProxyVersions$Script") (index := 14) (v := .ref (ad 484)) X oSc inX4_takeSign_X4 rfl 0 (by decide) (List.mem_of_getElem? (i := 2) rfl) rfl rfl dX4_takeSign_8 ?_
  obtain ⟨o2, ho2, hf⟩ := f_bd hf
  refine j_callVi X (oLn ln484) rfl rfl [] (c_X2_length X.2.2.2.2.2.2.2 ln484 ho2) (cwV 0 X.2.2.2.2.1 gX4_takeSign_X2_length rfl rfl rfl (by decide +kernel) ⟨Nat.le_of_ble_eq_true rfl, Nat.le_of_ble_eq_true rfl⟩) rfl rfl (Nat.le_of_ble_eq_true rfl) dX4_takeSign_11 ?_
  refine j_icmp_ne (tgt := 23) X dX4_takeSign_14 (by decide) (fun c => ?_) (fun c => ?_)
  · replace hf := f_t c hf
    refine j_aload_n X 0 dX4_takeSign_23 rfl rfl ?_
    refine j_get (ref := "ProxyVersions$Script") (index := 20) (v := .ref (ad 486)) X oSc inX4_takeSign_X4 rfl 1 (by decide) (List.mem_of_getElem? (i := 3) rfl) rfl rfl dX4_takeSign_24 ?_
    obtain ⟨o3, ho3, hf⟩ := f_bd hf
    refine j_callVi X (oLn ln486) rfl rfl [] (c_X2_length X.2.2.2.2.2.2.2 ln486 ho3) (cwV 0 X.2.2.2.2.1 gX4_takeSign_X2_length rfl rfl rfl (by decide +kernel) ⟨Nat.le_of_ble_eq_true rfl, Nat.le_of_ble_eq_true rfl⟩) rfl rfl (Nat.le_of_ble_eq_true rfl) dX4_takeSign_27 ?_
    refine j_aload_n X 0 dX4_takeSign_30 rfl rfl ?_
    refine j_get (ref := "ProxyVersions$Script") (index := 14) (v := .ref (ad 484)) X oSc inX4_takeSign_X4 rfl 0 (by decide) (List.mem_of_getElem? (i := 2) rfl) rfl rfl dX4_takeSign_31 ?_
    obtain ⟨o4, ho4, hf⟩ := f_bd hf
    refine j_callVi X (oLn ln484) rfl rfl [] (c_X2_length X.2.2.2.2.2.2.2 ln484 ho4) (cwV 0 X.2.2.2.2.1 gX4_takeSign_X2_length rfl rfl rfl (by decide +kernel) ⟨Nat.le_of_ble_eq_true rfl, Nat.le_of_ble_eq_true rfl⟩) rfl rfl (Nat.le_of_ble_eq_true rfl) dX4_takeSign_34 ?_
    refine j_icmp_ge (tgt := 50) X dX4_takeSign_37 (by decide) (fun c => ?_) (fun c => ?_)
    · replace hf := f_t c hf
      refine j_aload_n X 0 dX4_takeSign_50 rfl rfl ?_
      refine j_iload_n X 1 dX4_takeSign_51 rfl rfl ?_
      refine j_bipush X (v := (48 : Int32)) (by decide) dX4_takeSign_52 ?_
      refine j_isub X dX4_takeSign_54 ?_
      obtain ⟨o5, ho5, hf⟩ := f_bd hf
      refine j_callVi X oSc rfl rfl [.int (x1 - (48 : Int32))] (c_X4_takeCount X.2.2.2.2.2.2.2 ho5) (cwV 1 X.2.2.2.2.1 gX4_takeSign_X4_takeCount rfl rfl rfl (by decide +kernel) ⟨Nat.le_of_ble_eq_true rfl, Nat.le_of_ble_eq_true rfl⟩) rfl rfl (Nat.le_of_ble_eq_true rfl) dX4_takeSign_55 ?_
      exact j_bret X Y (congrArg Prod.fst (f_s hf)) (congrArg Prod.snd (f_s hf)) dX4_takeSign_58
    replace hf := f_f c hf
    refine j_aload_n X 0 dX4_takeSign_40 rfl rfl ?_
    refine j_iload_n X 1 dX4_takeSign_41 rfl rfl ?_
    refine j_bipush X (v := (48 : Int32)) (by decide) dX4_takeSign_42 ?_
    refine j_isub X dX4_takeSign_44 ?_
    refine j_iload_n X 2 dX4_takeSign_45 rfl rfl ?_
    obtain ⟨o6, ho6, hf⟩ := f_bd hf
    refine j_callVi X oSc rfl rfl [.int (x1 - (48 : Int32)), .int x2] (c_X4_takeNumber X.2.2.2.2.2.2.2 ho6) (cwV 2 X.2.2.2.2.1 gX4_takeSign_X4_takeNumber rfl rfl rfl (by decide +kernel) ⟨Nat.le_of_ble_eq_true rfl, Nat.le_of_ble_eq_true rfl⟩) rfl rfl (Nat.le_of_ble_eq_true rfl) dX4_takeSign_46 ?_
    exact j_bret X Y (congrArg Prod.fst (f_s hf)) (congrArg Prod.snd (f_s hf)) dX4_takeSign_49
  replace hf := f_fn c hf
  refine j_aload_n X 0 dX4_takeSign_17 rfl rfl ?_
  refine j_iload_n X 1 dX4_takeSign_18 rfl rfl ?_
  obtain ⟨o7, ho7, hf⟩ := f_bd hf
  refine j_callVi X oSc rfl rfl [.int x1] (c_X4_takeLetter X.2.2.2.2.2.2.2 ho7) (cwV 1 X.2.2.2.2.1 gX4_takeSign_X4_takeLetter rfl rfl rfl (by decide +kernel) ⟨Nat.le_of_ble_eq_true rfl, Nat.le_of_ble_eq_true rfl⟩) rfl rfl (Nat.le_of_ble_eq_true rfl) dX4_takeSign_19 ?_
  exact j_bret X Y (congrArg Prod.fst (f_s hf)) (congrArg Prod.snd (f_s hf)) dX4_takeSign_22
abbrev rmX4_parse : Room := { frames := 3, cells := 0, slots := 0, locals := 68 }
theorem inX4_parse_X4 : ∀ w ∈ wsX40, w ∈ wsX4_parse := fun _ h => List.mem_cons_of_mem _ (List.mem_append_left _ (List.mem_append_right _ h))
set_option maxRecDepth 100000 in
set_option maxHeartbeats 4000000 in
theorem t_X4_parse_j57 (X : CX p rmX4_parse s m args c cX4_parse 5 RX4 wsX4_parse D (tC cI cL cS) 490 ad) (Y : RX meth (some .int)) {q1 : Nat} {x2 : Int32} {x3 : Int32} {w : Wd} {kc : Int32 → Wd → Option (Int32 × Wd)} {kx63 : Wd → Option (Int32 × Wd)} {out : Int32 × Wd} (hq1 : isLn q1) (hf : m_X4_parse_j57 q1 x2 x3 w kc kx63 = some out) (hk_kc : ∀ (y3 : Int32) (v : Wd), kc y3 v = some out → WJ p l e rmX4_parse s m args below meth c (MQ below (QWi D 490 ad (cellC cI cL cS ad) out.1 out.2) args s 0 0 (AW 490 ad)) 5 D 490 ad (cellC cI cL cS ad) v 23 [(0, .ref (ad 479)), (1, .ref (ad q1)), (2, .int x2), (3, .int y3)] []) (hk_kx63 : ∀  (v : Wd), kx63 v = some out → WJ p l e rmX4_parse s m args below meth c (MQ below (QWi D 490 ad (cellC cI cL cS ad) out.1 out.2) args s 0 0 (AW 490 ad)) 5 D 490 ad (cellC cI cL cS ad) v 63 [(0, .ref (ad 479)), (1, .ref (ad q1))] []) : WJ p l e rmX4_parse s m args below meth c (MQ below (QWi D 490 ad (cellC cI cL cS ad) out.1 out.2) args s 0 0 (AW 490 ad)) 5 D 490 ad (cellC cI cL cS ad) w 57 [(0, .ref (ad 479)), (1, .ref (ad q1)), (2, .int x2), (3, .int x3)] [] := by
  unfold m_X4_parse_j57 at hf
  refine j_iinc (v := (x3 + (1 : Int32))) (lv' := [(0, .ref (ad 479)), (1, .ref (ad q1)), (2, .int x2), (3, .int (x3 + (1 : Int32)))]) X 3 dX4_parse_57 rfl rfl (by decide) rfl ?_
  refine j_goto (tgt := 23) X dX4_parse_60 (by decide) ?_
  exact hk_kc _ _ hf
set_option maxRecDepth 100000 in
set_option maxHeartbeats 4000000 in
theorem t_X4_parse_L23 (X : CX p rmX4_parse s m args c cX4_parse 5 RX4 wsX4_parse D (tC cI cL cS) 490 ad) (Y : RX meth (some .int)) {q1 : Nat} {x2 : Int32} {kx63 : Wd → Option (Int32 × Wd)} {out : Int32 × Wd} (hq1 : isLn q1) (hk_kx63 : ∀  (v : Wd), kx63 v = some out → WJ p l e rmX4_parse s m args below meth c (MQ below (QWi D 490 ad (cellC cI cL cS ad) out.1 out.2) args s 0 0 (AW 490 ad)) 5 D 490 ad (cellC cI cL cS ad) v 63 [(0, .ref (ad 479)), (1, .ref (ad q1))] []) : ∀ (n : Nat) (x3 : Int32) (w : Wd), m_X4_parse_L23 q1 x2 kx63 n x3 w = some out → WJ p l e rmX4_parse s m args below meth c (MQ below (QWi D 490 ad (cellC cI cL cS ad) out.1 out.2) args s 0 0 (AW 490 ad)) 5 D 490 ad (cellC cI cL cS ad) w 23 [(0, .ref (ad 479)), (1, .ref (ad q1)), (2, .int x2), (3, .int x3)] [] := by
  intro n
  induction n with
  | zero => intro x3 w hf; exact f_n hf
  | succ n ih =>
    intro x3 w hf
    rw [m_X4_parse_L23] at hf
    refine j_iload_n X 3 dX4_parse_23 rfl rfl ?_
    refine j_aload_n X 1 dX4_parse_24 rfl rfl ?_
    obtain ⟨o1, ho1, hf⟩ := f_bd hf
    refine j_callVi X (oLn hq1) rfl rfl [] (c_X2_length X.2.2.2.2.2.2.2 hq1 ho1) (cwV 0 X.2.2.2.2.1 gX4_parse_X2_length rfl rfl rfl (by decide +kernel) ⟨Nat.le_of_ble_eq_true rfl, Nat.le_of_ble_eq_true rfl⟩) rfl rfl (Nat.le_of_ble_eq_true rfl) dX4_parse_25 ?_
    refine j_icmp_ge (tgt := 63) X dX4_parse_28 (by decide) (fun c => ?_) (fun c => ?_)
    · replace hf := f_t c hf
      refine j_sub [0, 1] rfl ?_
      exact hk_kx63 _ hf
    replace hf := f_f c hf
    refine j_aload_n X 1 dX4_parse_31 rfl rfl ?_
    refine j_iload_n X 3 dX4_parse_32 rfl rfl ?_
    obtain ⟨o2, ho2, hf⟩ := f_bd hf
    refine j_callVi X (oLn hq1) rfl rfl [.int x3] (c_X2_at X.2.2.2.2.2.2.2 hq1 ho2) (cwV 1 X.2.2.2.2.1 gX4_parse_X2_at rfl rfl rfl (by decide +kernel) ⟨Nat.le_of_ble_eq_true rfl, Nat.le_of_ble_eq_true rfl⟩) rfl rfl (Nat.le_of_ble_eq_true rfl) dX4_parse_33 ?_
    refine j_istore (lv' := [(0, .ref (ad 479)), (1, .ref (ad q1)), (2, .int x2), (3, .int x3), (4, .int o2)]) X dX4_parse_36 (by decide) rfl ?_
    refine j_iload X 4 dX4_parse_38 rfl ?_
    refine j_bipush X (v := (32 : Int32)) (by decide) dX4_parse_40 ?_
    refine j_icmp_eq (tgt := 57) X dX4_parse_42 (by decide) (fun c => ?_) (fun c => ?_)
    · replace hf := f_t c hf
      refine j_sub [0, 1, 2, 3] rfl ?_
      exact t_X4_parse_j57 X Y hq1 hf ih hk_kx63
    replace hf := f_f c hf
    refine j_aload_n X 0 dX4_parse_45 rfl rfl ?_
    refine j_iload X 4 dX4_parse_46 rfl ?_
    refine j_iload_n X 2 dX4_parse_48 rfl rfl ?_
    obtain ⟨o3, ho3, hf⟩ := f_bd hf
    refine j_callVi X oSc rfl rfl [.int o2, .int x2] (c_X4_takeSign X.2.2.2.2.2.2.2 ho3) (cwV 2 X.2.2.2.2.1 gX4_parse_X4_takeSign rfl rfl rfl (by decide +kernel) ⟨Nat.le_of_ble_eq_true rfl, Nat.le_of_ble_eq_true rfl⟩) rfl rfl (Nat.le_of_ble_eq_true rfl) dX4_parse_49 ?_
    refine j_if_ne (tgt := 57) X dX4_parse_52 (by decide) (fun c => ?_) (fun c => ?_)
    · replace hf := f_t c hf
      refine j_sub [0, 1, 2, 3] rfl ?_
      exact t_X4_parse_j57 X Y hq1 hf ih hk_kx63
    replace hf := f_fn c hf
    refine j_iload_n X 3 dX4_parse_55 rfl rfl ?_
    exact j_iret X Y (congrArg Prod.fst (f_s hf)) (congrArg Prod.snd (f_s hf)) dX4_parse_56
set_option maxRecDepth 100000 in
set_option maxHeartbeats 4000000 in
theorem c_X4_parse (hI : Inj 490 ad) {q1 : Nat} {x2 : Int32} {w : Wd} {out : Int32 × Wd} (hq1 : isLn q1) (hf : m_X4_parse q1 x2 w = some out) : Met l yX4_parse wsX4_parse rmX4_parse (va_Pc [.ref (ad 479), .ref (ad q1), .int x2] (PW D (tC cI cL cS) 490 ad (cellC cI cL cS ad) w)) (QWi D 490 ad (cellC cI cL cS ad) out.1 out.2) 0 0 (AW 490 ad) := by
  refine mk_met (maxL := 5) (ret := (some .int)) RX4 hI (by decide) rfl rfl (Nat.le_of_ble_eq_true rfl) rfl rfl (fun p e s m args below meth c X Y => ?_)
  unfold m_X4_parse at hf
  refine j_aload_n X 0 dX4_parse_0 rfl rfl ?_
  refine j_get (ref := "ProxyVersions$Script") (index := 14) (v := .ref (ad 484)) X oSc inX4_parse_X4 rfl 0 (by decide) (List.mem_of_getElem? (i := 1) rfl) rfl rfl dX4_parse_1 ?_
  obtain ⟨o1, ho1, hf⟩ := f_bd hf
  refine j_callVv X (oLn ln484) rfl rfl [] (c_X2_clear X.2.2.2.2.2.2.2 ln484 ho1) (cwV 0 X.2.2.2.2.1 gX4_parse_X2_clear rfl rfl rfl (by decide +kernel) ⟨Nat.le_of_ble_eq_true rfl, Nat.le_of_ble_eq_true rfl⟩) rfl rfl (Nat.le_of_ble_eq_true rfl) dX4_parse_4 ?_
  refine j_aload_n X 0 dX4_parse_7 rfl rfl ?_
  refine j_get (ref := "ProxyVersions$Script") (index := 20) (v := .ref (ad 486)) X oSc inX4_parse_X4 rfl 1 (by decide) (List.mem_of_getElem? (i := 2) rfl) rfl rfl dX4_parse_8 ?_
  obtain ⟨o2, ho2, hf⟩ := f_bd hf
  refine j_callVv X (oLn ln486) rfl rfl [] (c_X2_clear X.2.2.2.2.2.2.2 ln486 ho2) (cwV 0 X.2.2.2.2.1 gX4_parse_X2_clear rfl rfl rfl (by decide +kernel) ⟨Nat.le_of_ble_eq_true rfl, Nat.le_of_ble_eq_true rfl⟩) rfl rfl (Nat.le_of_ble_eq_true rfl) dX4_parse_11 ?_
  refine j_aload_n X 0 dX4_parse_14 rfl rfl ?_
  refine j_get (ref := "ProxyVersions$Script") (index := 23) (v := .ref (ad 488)) X oSc inX4_parse_X4 rfl 2 (by decide) (List.mem_of_getElem? (i := 3) rfl) rfl rfl dX4_parse_15 ?_
  obtain ⟨o3, ho3, hf⟩ := f_bd hf
  refine j_callVv X (oLn ln488) rfl rfl [] (c_X2_clear X.2.2.2.2.2.2.2 ln488 ho3) (cwV 0 X.2.2.2.2.1 gX4_parse_X2_clear rfl rfl rfl (by decide +kernel) ⟨Nat.le_of_ble_eq_true rfl, Nat.le_of_ble_eq_true rfl⟩) rfl rfl (Nat.le_of_ble_eq_true rfl) dX4_parse_18 ?_
  refine j_iconst X (v := (0 : Int32)) rfl dX4_parse_21 ?_
  refine j_istore_n (lv' := [(0, .ref (ad 479)), (1, .ref (ad q1)), (2, .int x2), (3, .int (0 : Int32))]) X dX4_parse_22 rfl (by decide) rfl ?_
  refine t_X4_parse_L23 X Y hq1 ?_ _ _ _ hf
  intro w4 hf
  refine j_aload_n X 0 dX4_parse_63 rfl rfl ?_
  refine j_get (ref := "ProxyVersions$Script") (index := 23) (v := .ref (ad 488)) X oSc inX4_parse_X4 rfl 2 (by decide) (List.mem_of_getElem? (i := 3) rfl) rfl rfl dX4_parse_64 ?_
  obtain ⟨o5, ho5, hf⟩ := f_bd hf
  refine j_callVi X (oLn ln488) rfl rfl [] (c_X2_length X.2.2.2.2.2.2.2 ln488 ho5) (cwV 0 X.2.2.2.2.1 gX4_parse_X2_length rfl rfl rfl (by decide +kernel) ⟨Nat.le_of_ble_eq_true rfl, Nat.le_of_ble_eq_true rfl⟩) rfl rfl (Nat.le_of_ble_eq_true rfl) dX4_parse_67 ?_
  refine j_aload_n X 0 dX4_parse_70 rfl rfl ?_
  refine j_get (ref := "ProxyVersions$Script") (index := 14) (v := .ref (ad 484)) X oSc inX4_parse_X4 rfl 0 (by decide) (List.mem_of_getElem? (i := 1) rfl) rfl rfl dX4_parse_71 ?_
  obtain ⟨o6, ho6, hf⟩ := f_bd hf
  refine j_callVi X (oLn ln484) rfl rfl [] (c_X2_length X.2.2.2.2.2.2.2 ln484 ho6) (cwV 0 X.2.2.2.2.1 gX4_parse_X2_length rfl rfl rfl (by decide +kernel) ⟨Nat.le_of_ble_eq_true rfl, Nat.le_of_ble_eq_true rfl⟩) rfl rfl (Nat.le_of_ble_eq_true rfl) dX4_parse_74 ?_
  refine j_icmp_ne (tgt := 84) X dX4_parse_77 (by decide) (fun c => ?_) (fun c => ?_)
  · replace hf := f_t c hf
    refine j_aload_n X 1 dX4_parse_84 rfl rfl ?_
    obtain ⟨o7, ho7, hf⟩ := f_bd hf
    refine j_callVi X (oLn hq1) rfl rfl [] (c_X2_length X.2.2.2.2.2.2.2 hq1 ho7) (cwV 0 X.2.2.2.2.1 gX4_parse_X2_length rfl rfl rfl (by decide +kernel) ⟨Nat.le_of_ble_eq_true rfl, Nat.le_of_ble_eq_true rfl⟩) rfl rfl (Nat.le_of_ble_eq_true rfl) dX4_parse_85 ?_
    exact j_iret X Y (congrArg Prod.fst (f_s hf)) (congrArg Prod.snd (f_s hf)) dX4_parse_88
  replace hf := f_fn c hf
  refine j_iconst X (v := (-1 : Int32)) rfl dX4_parse_80 ?_
  refine j_goto (tgt := 88) X dX4_parse_81 (by decide) ?_
  exact j_iret X Y (congrArg Prod.fst (f_s hf)) (congrArg Prod.snd (f_s hf)) dX4_parse_88
end WALK12
