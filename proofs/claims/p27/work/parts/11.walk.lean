/-! ===== the bytecode does what the model says (printed by wip/p27/tools/genL.py) ===== -/
section WALK11
variable {p : Program} {l : Launch} {e : Env} {s : State} {m : MethodId} {args : Array Value} {below : List Frame} {meth : Method} {c : Code} {D : va_G} {cI cL cS : ClassId} {ad : Nat → Nat}
abbrev rmX2_has : Room := { frames := 0, cells := 0, slots := 0, locals := 0 }
theorem inX2_has_X2 : ∀ w ∈ wsX20, w ∈ wsX2_has := fun _ h => List.mem_cons_of_mem _ (List.mem_append_right _ h)
set_option maxRecDepth 100000 in
set_option maxHeartbeats 4000000 in
theorem t_X2_has_L2 (X : CX p rmX2_has s m args c cX2_has 3 RX2 wsX2_has D (tC cI cL cS) 490 ad) (Y : RX meth (some .boolean)) {q0 : Nat} {x1 : Int32} {w : Wd} {out : Int32} (hq0 : isLn q0) : ∀ (n : Nat) (x2 : Int32), m_X2_has_L2 q0 x1 w n x2 = some out → WJ p l e rmX2_has s m args below meth c (MQ below (QWi D 490 ad (cellC cI cL cS ad) out w) args s 0 0 (AW 490 ad)) 3 D 490 ad (cellC cI cL cS ad) w 2 [(0, .ref (ad q0)), (1, .int x1), (2, .int x2)] [] := by
  intro n
  induction n with
  | zero => intro x2 hf; exact f_n hf
  | succ n ih =>
    intro x2 hf
    rw [m_X2_has_L2] at hf
    refine j_iload_n X 2 dX2_has_2 rfl rfl ?_
    refine j_aload_n X 0 dX2_has_3 rfl rfl ?_
    refine j_get (ref := "ProxyVersions$Line") (index := 19) (v := .int (w q0 1)) X (oLn hq0) inX2_has_X2 rfl 1 (by decide) (List.mem_of_getElem? (i := 1) rfl) rfl rfl dX2_has_4 ?_
    refine j_icmp_ge (tgt := 37) X dX2_has_7 (by decide) (fun c => ?_) (fun c => ?_)
    · replace hf := f_t c hf
      refine j_iconst X (v := (nI 0)) (by decide) dX2_has_37 ?_
      exact j_bret X Y (Eq.trans (by decide : (nI 0) &&& 1 = (nI 0)) (f_s hf)) rfl dX2_has_38
    replace hf := f_f c hf
    refine j_iload_n X 2 dX2_has_10 rfl rfl ?_
    refine j_aload_n X 0 dX2_has_11 rfl rfl ?_
    refine j_get (ref := "ProxyVersions$Line") (index := 13) (v := .ref (ad (q0 + 1))) X (oLn hq0) inX2_has_X2 rfl 0 (by decide) (List.mem_of_getElem? (i := 2) rfl) rfl rfl dX2_has_12 ?_
    refine j_alen X 0 rfl (iLn hq0) dX2_has_15 ?_
    refine j_icmp_ge (tgt := 37) X dX2_has_16 (by decide) (fun c => ?_) (fun c => ?_)
    · replace hf := f_t c hf
      refine j_iconst X (v := (nI 0)) (by decide) dX2_has_37 ?_
      exact j_bret X Y (Eq.trans (by decide : (nI 0) &&& 1 = (nI 0)) (f_s hf)) rfl dX2_has_38
    replace hf := f_f c hf
    refine j_aload_n X 0 dX2_has_19 rfl rfl ?_
    refine j_get (ref := "ProxyVersions$Line") (index := 13) (v := .ref (ad (q0 + 1))) X (oLn hq0) inX2_has_X2 rfl 0 (by decide) (List.mem_of_getElem? (i := 2) rfl) rfl rfl dX2_has_20 ?_
    refine j_iload_n X 2 dX2_has_23 rfl rfl ?_
    obtain ⟨hi1, hf⟩ := f_c hf
    refine j_iald X 0 rfl (iLn hq0) hi1 dX2_has_24 ?_
    refine j_iload_n X 1 dX2_has_25 rfl rfl ?_
    refine j_icmp_ne (tgt := 31) X dX2_has_26 (by decide) (fun c => ?_) (fun c => ?_)
    · replace hf := f_t c hf
      refine j_iinc (v := (x2 + (nI 1))) (lv' := [(0, .ref (ad q0)), (1, .int x1), (2, .int (x2 + (nI 1)))]) X 2 dX2_has_31 rfl rfl (by decide) rfl ?_
      refine j_goto (tgt := 2) X dX2_has_34 (by decide) ?_
      exact ih _ hf
    replace hf := f_fn c hf
    refine j_iconst X (v := (nI 1)) (by decide) dX2_has_29 ?_
    exact j_bret X Y (Eq.trans (by decide : (nI 1) &&& 1 = (nI 1)) (f_s hf)) rfl dX2_has_30
set_option maxRecDepth 100000 in
set_option maxHeartbeats 4000000 in
theorem c_X2_has (hI : Inj 490 ad) {q0 : Nat} {x1 : Int32} {w : Wd} {out : Int32} (hq0 : isLn q0) (hf : m_X2_has q0 x1 w = some out) : Met l yX2_has wsX2_has rmX2_has (va_Pc [.ref (ad q0), .int x1] (PW D (tC cI cL cS) 490 ad (cellC cI cL cS ad) w)) (QWi D 490 ad (cellC cI cL cS ad) out w) 0 0 (AW 490 ad) := by
  refine mk_met (maxL := 3) (ret := (some .boolean)) RX2 hI (by decide) rfl rfl (Nat.le_of_ble_eq_true rfl) rfl rfl (fun p e s m args below meth c X Y => ?_)
  unfold m_X2_has at hf
  refine j_iconst X (v := (nI 0)) (by decide) dX2_has_0 ?_
  refine j_istore_n (lv' := [(0, .ref (ad q0)), (1, .int x1), (2, .int (nI 0))]) X dX2_has_1 rfl (by decide) rfl ?_
  refine t_X2_has_L2 X Y hq0 _ _ hf
abbrev rmX2_append : Room := { frames := 0, cells := 0, slots := 0, locals := 0 }
theorem inX2_append_X2 : ∀ w ∈ wsX20, w ∈ wsX2_append := fun _ h => List.mem_cons_of_mem _ (List.mem_append_right _ h)
set_option maxRecDepth 100000 in
set_option maxHeartbeats 4000000 in
theorem c_X2_append (hI : Inj 490 ad) {q0 : Nat} {x1 : Int32} {w : Wd} {out : Int32 × Wd} (hq0 : isLn q0) (hf : m_X2_append q0 x1 w = some out) : Met l yX2_append wsX2_append rmX2_append (va_Pc [.ref (ad q0), .int x1] (PW D (tC cI cL cS) 490 ad (cellC cI cL cS ad) w)) (QWi D 490 ad (cellC cI cL cS ad) out.1 out.2) 0 0 (AW 490 ad) := by
  refine mk_met (maxL := 2) (ret := (some .boolean)) RX2 hI (by decide) rfl rfl (Nat.le_of_ble_eq_true rfl) rfl rfl (fun p e s m args below meth c X Y => ?_)
  unfold m_X2_append at hf
  refine j_aload_n X 0 dX2_append_0 rfl rfl ?_
  refine j_get (ref := "ProxyVersions$Line") (index := 19) (v := .int (w q0 1)) X (oLn hq0) inX2_append_X2 rfl 1 (by decide) (List.mem_of_getElem? (i := 1) rfl) rfl rfl dX2_append_1 ?_
  refine j_if_lt (tgt := 19) X dX2_append_4 (by decide) (fun c => ?_) (fun c => ?_)
  · replace hf := f_t c hf
    refine j_iconst X (v := (nI 0)) (by decide) dX2_append_19 ?_
    exact j_bret X Y (Eq.trans (by decide : (nI 0) &&& 1 = (nI 0)) (f_p1 hf)) (f_p2 hf) dX2_append_20
  replace hf := f_f c hf
  refine j_aload_n X 0 dX2_append_7 rfl rfl ?_
  refine j_get (ref := "ProxyVersions$Line") (index := 19) (v := .int (w q0 1)) X (oLn hq0) inX2_append_X2 rfl 1 (by decide) (List.mem_of_getElem? (i := 1) rfl) rfl rfl dX2_append_8 ?_
  refine j_aload_n X 0 dX2_append_11 rfl rfl ?_
  refine j_get (ref := "ProxyVersions$Line") (index := 13) (v := .ref (ad (q0 + 1))) X (oLn hq0) inX2_append_X2 rfl 0 (by decide) (List.mem_of_getElem? (i := 2) rfl) rfl rfl dX2_append_12 ?_
  refine j_alen X 0 rfl (iLn hq0) dX2_append_15 ?_
  refine j_icmp_lt (tgt := 21) X dX2_append_16 (by decide) (fun c => ?_) (fun c => ?_)
  · replace hf := f_t c hf
    refine j_aload_n X 0 dX2_append_21 rfl rfl ?_
    refine j_get (ref := "ProxyVersions$Line") (index := 13) (v := .ref (ad (q0 + 1))) X (oLn hq0) inX2_append_X2 rfl 0 (by decide) (List.mem_of_getElem? (i := 2) rfl) rfl rfl dX2_append_22 ?_
    refine j_aload_n X 0 dX2_append_25 rfl rfl ?_
    refine j_get (ref := "ProxyVersions$Line") (index := 19) (v := .int (w q0 1)) X (oLn hq0) inX2_append_X2 rfl 1 (by decide) (List.mem_of_getElem? (i := 1) rfl) rfl rfl dX2_append_26 ?_
    refine j_iload_n X 1 dX2_append_29 rfl rfl ?_
    obtain ⟨hi1, hf⟩ := f_c hf
    obtain ⟨w2, ew2, hf⟩ := f_lt hf
    refine j_iast X 0 rfl (iLn hq0) hi1 dX2_append_30 ew2 ?_
    refine j_aload_n X 0 dX2_append_31 rfl rfl ?_
    refine j_dup X rfl dX2_append_32 ?_
    refine j_get (ref := "ProxyVersions$Line") (index := 19) (v := .int (w2 q0 1)) X (oLn hq0) inX2_append_X2 rfl 1 (by decide) (List.mem_of_getElem? (i := 1) rfl) rfl rfl dX2_append_33 ?_
    refine j_iconst X (v := (nI 1)) (by decide) dX2_append_36 ?_
    refine j_iadd X dX2_append_37 ?_
    obtain ⟨w3, ew3, hf⟩ := f_lt hf
    refine j_put (ref := "ProxyVersions$Line") (index := 19)  X (oLn hq0) inX2_append_X2 tyX2_ok nmX2 rfl 1 (by decide) (List.mem_of_getElem? (i := 1) rfl) rfl rfl rfl (Nat.le_of_ble_eq_true rfl) rfl dX2_append_38 ew3 ?_
    refine j_iconst X (v := (nI 1)) (by decide) dX2_append_41 ?_
    exact j_bret X Y (Eq.trans (by decide : (nI 1) &&& 1 = (nI 1)) (f_p1 hf)) (f_p2 hf) dX2_append_42
  replace hf := f_f c hf
  refine j_iconst X (v := (nI 0)) (by decide) dX2_append_19 ?_
  exact j_bret X Y (Eq.trans (by decide : (nI 0) &&& 1 = (nI 0)) (f_p1 hf)) (f_p2 hf) dX2_append_20
abbrev rmX2_removeAt : Room := { frames := 0, cells := 0, slots := 0, locals := 0 }
theorem inX2_removeAt_X2 : ∀ w ∈ wsX20, w ∈ wsX2_removeAt := fun _ h => List.mem_cons_of_mem _ (List.mem_append_right _ h)
set_option maxRecDepth 100000 in
set_option maxHeartbeats 4000000 in
theorem t_X2_removeAt_L17 (X : CX p rmX2_removeAt s m args c cX2_removeAt 3 RX2 wsX2_removeAt D (tC cI cL cS) 490 ad) (Y : RX meth none) {q0 : Nat} {kx54 : Wd → Option (Wd)} {out : Wd} (hq0 : isLn q0) (hk_kx54 : ∀  (v : Wd), kx54 v = some out → WJ p l e rmX2_removeAt s m args below meth c (MQ below (QWv D 490 ad (cellC cI cL cS ad) out) args s 0 0 (AW 490 ad)) 3 D 490 ad (cellC cI cL cS ad) v 54 [(0, .ref (ad q0))] []) : ∀ (n : Nat) (x2 : Int32) (w : Wd), m_X2_removeAt_L17 q0 kx54 n x2 w = some out → WJ p l e rmX2_removeAt s m args below meth c (MQ below (QWv D 490 ad (cellC cI cL cS ad) out) args s 0 0 (AW 490 ad)) 3 D 490 ad (cellC cI cL cS ad) w 17 [(0, .ref (ad q0)), (2, .int x2)] [] := by
  intro n
  induction n with
  | zero => intro x2 w hf; exact f_n hf
  | succ n ih =>
    intro x2 w hf
    rw [m_X2_removeAt_L17] at hf
    refine j_iload_n X 1 dX2_removeAt_17 rfl rfl ?_
    refine j_aload_n X 0 dX2_removeAt_18 rfl rfl ?_
    refine j_get (ref := "ProxyVersions$Line") (index := 19) (v := .int (w q0 1)) X (oLn hq0) inX2_removeAt_X2 rfl 1 (by decide) (List.mem_of_getElem? (i := 1) rfl) rfl rfl dX2_removeAt_19 ?_
    refine j_icmp_ge (tgt := 54) X dX2_removeAt_22 (by decide) (fun c => ?_) (fun c => ?_)
    · replace hf := f_t c hf
      refine j_sub [0] rfl ?_
      exact hk_kx54 _ hf
    replace hf := f_f c hf
    refine j_iload_n X 1 dX2_removeAt_25 rfl rfl ?_
    refine j_aload_n X 0 dX2_removeAt_26 rfl rfl ?_
    refine j_get (ref := "ProxyVersions$Line") (index := 13) (v := .ref (ad (q0 + 1))) X (oLn hq0) inX2_removeAt_X2 rfl 0 (by decide) (List.mem_of_getElem? (i := 2) rfl) rfl rfl dX2_removeAt_27 ?_
    refine j_alen X 0 rfl (iLn hq0) dX2_removeAt_30 ?_
    refine j_icmp_ge (tgt := 54) X dX2_removeAt_31 (by decide) (fun c => ?_) (fun c => ?_)
    · replace hf := f_t c hf
      refine j_sub [0] rfl ?_
      exact hk_kx54 _ hf
    replace hf := f_f c hf
    refine j_aload_n X 0 dX2_removeAt_34 rfl rfl ?_
    refine j_get (ref := "ProxyVersions$Line") (index := 13) (v := .ref (ad (q0 + 1))) X (oLn hq0) inX2_removeAt_X2 rfl 0 (by decide) (List.mem_of_getElem? (i := 2) rfl) rfl rfl dX2_removeAt_35 ?_
    refine j_iload_n X 1 dX2_removeAt_38 rfl rfl ?_
    refine j_iconst X (v := (nI 1)) (by decide) dX2_removeAt_39 ?_
    refine j_isub X dX2_removeAt_40 ?_
    refine j_aload_n X 0 dX2_removeAt_41 rfl rfl ?_
    refine j_get (ref := "ProxyVersions$Line") (index := 13) (v := .ref (ad (q0 + 1))) X (oLn hq0) inX2_removeAt_X2 rfl 0 (by decide) (List.mem_of_getElem? (i := 2) rfl) rfl rfl dX2_removeAt_42 ?_
    refine j_iload_n X 1 dX2_removeAt_45 rfl rfl ?_
    obtain ⟨hi1, hf⟩ := f_c hf
    refine j_iald X 0 rfl (iLn hq0) hi1 dX2_removeAt_46 ?_
    obtain ⟨hi2, hf⟩ := f_c hf
    obtain ⟨w3, ew3, hf⟩ := f_lt hf
    refine j_iast X 0 rfl (iLn hq0) hi2 dX2_removeAt_47 ew3 ?_
    refine j_iinc (v := (x2 + (nI 1))) (lv' := [(0, .ref (ad q0)), (2, .int (x2 + (nI 1)))]) X 1 dX2_removeAt_48 rfl rfl (by decide) rfl ?_
    refine j_goto (tgt := 17) X dX2_removeAt_51 (by decide) ?_
    exact ih _ _ hf
set_option maxRecDepth 100000 in
set_option maxHeartbeats 4000000 in
theorem t_X2_removeAt_j54 (X : CX p rmX2_removeAt s m args c cX2_removeAt 3 RX2 wsX2_removeAt D (tC cI cL cS) 490 ad) (Y : RX meth none) {q0 : Nat} {w : Wd} {out : Wd} (hq0 : isLn q0) (hf : m_X2_removeAt_j54 q0 w = some out) : WJ p l e rmX2_removeAt s m args below meth c (MQ below (QWv D 490 ad (cellC cI cL cS ad) out) args s 0 0 (AW 490 ad)) 3 D 490 ad (cellC cI cL cS ad) w 54 [(0, .ref (ad q0))] [] := by
  unfold m_X2_removeAt_j54 at hf
  refine j_aload_n X 0 dX2_removeAt_54 rfl rfl ?_
  refine j_dup X rfl dX2_removeAt_55 ?_
  refine j_get (ref := "ProxyVersions$Line") (index := 19) (v := .int (w q0 1)) X (oLn hq0) inX2_removeAt_X2 rfl 1 (by decide) (List.mem_of_getElem? (i := 1) rfl) rfl rfl dX2_removeAt_56 ?_
  refine j_iconst X (v := (nI 1)) (by decide) dX2_removeAt_59 ?_
  refine j_isub X dX2_removeAt_60 ?_
  obtain ⟨w1, ew1, hf⟩ := f_lt hf
  refine j_put (ref := "ProxyVersions$Line") (index := 19)  X (oLn hq0) inX2_removeAt_X2 tyX2_ok nmX2 rfl 1 (by decide) (List.mem_of_getElem? (i := 1) rfl) rfl rfl rfl (Nat.le_of_ble_eq_true rfl) rfl dX2_removeAt_61 ew1 ?_
  exact j_vret X Y (f_s hf) dX2_removeAt_64
set_option maxRecDepth 100000 in
set_option maxHeartbeats 4000000 in
theorem c_X2_removeAt (hI : Inj 490 ad) {q0 : Nat} {x1 : Int32} {w : Wd} {out : Wd} (hq0 : isLn q0) (hf : m_X2_removeAt q0 x1 w = some out) : Met l yX2_removeAt wsX2_removeAt rmX2_removeAt (va_Pc [.ref (ad q0), .int x1] (PW D (tC cI cL cS) 490 ad (cellC cI cL cS ad) w)) (QWv D 490 ad (cellC cI cL cS ad) out) 0 0 (AW 490 ad) := by
  refine mk_met (maxL := 3) (ret := none) RX2 hI (by decide) rfl rfl (Nat.le_of_ble_eq_true rfl) rfl rfl (fun p e s m args below meth c X Y => ?_)
  unfold m_X2_removeAt at hf
  refine j_iload_n X 1 dX2_removeAt_0 rfl rfl ?_
  refine j_if_lt (tgt := 12) X dX2_removeAt_1 (by decide) (fun c => ?_) (fun c => ?_)
  · replace hf := f_t c hf
    exact j_vret X Y (f_s hf) dX2_removeAt_12
  replace hf := f_f c hf
  refine j_iload_n X 1 dX2_removeAt_4 rfl rfl ?_
  refine j_aload_n X 0 dX2_removeAt_5 rfl rfl ?_
  refine j_get (ref := "ProxyVersions$Line") (index := 19) (v := .int (w q0 1)) X (oLn hq0) inX2_removeAt_X2 rfl 1 (by decide) (List.mem_of_getElem? (i := 1) rfl) rfl rfl dX2_removeAt_6 ?_
  refine j_icmp_lt (tgt := 13) X dX2_removeAt_9 (by decide) (fun c => ?_) (fun c => ?_)
  · replace hf := f_t c hf
    refine j_iload_n X 1 dX2_removeAt_13 rfl rfl ?_
    refine j_iconst X (v := (nI 1)) (by decide) dX2_removeAt_14 ?_
    refine j_iadd X dX2_removeAt_15 ?_
    obtain ⟨x2_1, ex2_1, hf⟩ := f_lt hf
    refine j_top ex2_1 ?_
    refine j_istore_n (lv' := [(0, .ref (ad q0)), (1, .int x1), (2, .int x2_1)]) X dX2_removeAt_16 rfl (by decide) rfl ?_
    refine j_sub [0, 2] rfl ?_
    refine t_X2_removeAt_L17 X Y hq0 ?_ _ _ _ hf
    intro w2 hf
    exact t_X2_removeAt_j54 X Y hq0 hf
  replace hf := f_f c hf
  exact j_vret X Y (f_s hf) dX2_removeAt_12
abbrev rmX2_clear : Room := { frames := 0, cells := 0, slots := 0, locals := 0 }
theorem inX2_clear_X2 : ∀ w ∈ wsX20, w ∈ wsX2_clear := fun _ h => List.mem_cons_of_mem _ (List.mem_append_right _ h)
set_option maxRecDepth 100000 in
set_option maxHeartbeats 4000000 in
theorem c_X2_clear (hI : Inj 490 ad) {q0 : Nat} {w : Wd} {out : Wd} (hq0 : isLn q0) (hf : m_X2_clear q0 w = some out) : Met l yX2_clear wsX2_clear rmX2_clear (va_Pc [.ref (ad q0)] (PW D (tC cI cL cS) 490 ad (cellC cI cL cS ad) w)) (QWv D 490 ad (cellC cI cL cS ad) out) 0 0 (AW 490 ad) := by
  refine mk_met (maxL := 1) (ret := none) RX2 hI (by decide) rfl rfl (Nat.le_of_ble_eq_true rfl) rfl rfl (fun p e s m args below meth c X Y => ?_)
  unfold m_X2_clear at hf
  refine j_aload_n X 0 dX2_clear_0 rfl rfl ?_
  refine j_iconst X (v := (nI 0)) (by decide) dX2_clear_1 ?_
  obtain ⟨w1, ew1, hf⟩ := f_lt hf
  refine j_put (ref := "ProxyVersions$Line") (index := 19)  X (oLn hq0) inX2_clear_X2 tyX2_ok nmX2 rfl 1 (by decide) (List.mem_of_getElem? (i := 1) rfl) rfl rfl rfl (Nat.le_of_ble_eq_true rfl) rfl dX2_clear_2 ew1 ?_
  exact j_vret X Y (f_s hf) dX2_clear_5
abbrev rmX5_hasProxy : Room := { frames := 0, cells := 0, slots := 0, locals := 0 }
theorem inX5_hasProxy_X5 : ∀ w ∈ wsX50, w ∈ wsX5_hasProxy := fun _ h => List.mem_cons_of_mem _ (List.mem_append_right _ h)
set_option maxRecDepth 100000 in
set_option maxHeartbeats 4000000 in
theorem c_X5_hasProxy (hI : Inj 490 ad) {x1 : Int32} {w : Wd} {out : Int32} (hf : m_X5_hasProxy x1 w = some out) : Met l yX5_hasProxy wsX5_hasProxy rmX5_hasProxy (va_Pc [.ref (ad 50), .int x1] (PW D (tC cI cL cS) 490 ad (cellC cI cL cS ad) w)) (QWi D 490 ad (cellC cI cL cS ad) out w) 0 0 (AW 490 ad) := by
  refine mk_met (maxL := 2) (ret := (some .boolean)) RX5 hI (by decide) rfl rfl (Nat.le_of_ble_eq_true rfl) rfl rfl (fun p e s m args below meth c X Y => ?_)
  unfold m_X5_hasProxy at hf
  refine j_iload_n X 1 dX5_hasProxy_0 rfl rfl ?_
  refine j_if_lt (tgt := 16) X dX5_hasProxy_1 (by decide) (fun c => ?_) (fun c => ?_)
  · replace hf := f_t c hf
    refine j_iconst X (v := (nI 0)) (by decide) dX5_hasProxy_16 ?_
    exact j_bret X Y (Eq.trans (by decide : (nI 0) &&& 1 = (nI 0)) (f_s hf)) rfl dX5_hasProxy_17
  replace hf := f_f c hf
  refine j_iload_n X 1 dX5_hasProxy_4 rfl rfl ?_
  refine j_aload_n X 0 dX5_hasProxy_5 rfl rfl ?_
  refine j_get (ref := "ProxyVersions$State") (index := 9) (v := .int (w 50 0)) X oS0 inX5_hasProxy_X5 rfl 0 (by decide) (List.mem_of_getElem? (i := 1) rfl) rfl rfl dX5_hasProxy_6 ?_
  refine j_icmp_ge (tgt := 16) X dX5_hasProxy_9 (by decide) (fun c => ?_) (fun c => ?_)
  · replace hf := f_t c hf
    refine j_iconst X (v := (nI 0)) (by decide) dX5_hasProxy_16 ?_
    exact j_bret X Y (Eq.trans (by decide : (nI 0) &&& 1 = (nI 0)) (f_s hf)) rfl dX5_hasProxy_17
  replace hf := f_f c hf
  refine j_iconst X (v := (nI 1)) (by decide) dX5_hasProxy_12 ?_
  refine j_goto (tgt := 17) X dX5_hasProxy_13 (by decide) ?_
  exact j_bret X Y (Eq.trans (by decide : (nI 1) &&& 1 = (nI 1)) (f_s hf)) rfl dX5_hasProxy_17
abbrev rmX5_addChild : Room := { frames := 0, cells := 0, slots := 0, locals := 0 }
theorem inX5_addChild_X5 : ∀ w ∈ wsX50, w ∈ wsX5_addChild := fun _ h => List.mem_cons_of_mem _ (List.mem_append_right _ h)
set_option maxRecDepth 100000 in
set_option maxHeartbeats 4000000 in
theorem c_X5_addChild (hI : Inj 490 ad) {x1 : Int32} {w : Wd} {out : Int32 × Wd} (hf : m_X5_addChild x1 w = some out) : Met l yX5_addChild wsX5_addChild rmX5_addChild (va_Pc [.ref (ad 50), .int x1] (PW D (tC cI cL cS) 490 ad (cellC cI cL cS ad) w)) (QWi D 490 ad (cellC cI cL cS ad) out.1 out.2) 0 0 (AW 490 ad) := by
  refine mk_met (maxL := 3) (ret := (some .int)) RX5 hI (by decide) rfl rfl (Nat.le_of_ble_eq_true rfl) rfl rfl (fun p e s m args below meth c X Y => ?_)
  unfold m_X5_addChild at hf
  refine j_aload_n X 0 dX5_addChild_0 rfl rfl ?_
  refine j_get (ref := "ProxyVersions$State") (index := 9) (v := .int (w 50 0)) X oS0 inX5_addChild_X5 rfl 0 (by decide) (List.mem_of_getElem? (i := 1) rfl) rfl rfl dX5_addChild_1 ?_
  obtain ⟨x2_1, ex2_1, hf⟩ := f_lt hf
  refine j_top ex2_1 ?_
  refine j_istore_n (lv' := [(0, .ref (ad 50)), (1, .int x1), (2, .int x2_1)]) X dX5_addChild_4 rfl (by decide) rfl ?_
  refine j_iload_n X 2 dX5_addChild_5 rfl rfl ?_
  refine j_if_lt (tgt := 35) X dX5_addChild_6 (by decide) (fun c => ?_) (fun c => ?_)
  · replace hf := f_t c hf
    refine j_iload_n X 2 dX5_addChild_35 rfl rfl ?_
    exact j_iret X Y (f_p1 hf) (f_p2 hf) dX5_addChild_36
  replace hf := f_f c hf
  refine j_iload_n X 2 dX5_addChild_9 rfl rfl ?_
  refine j_aload_n X 0 dX5_addChild_10 rfl rfl ?_
  refine j_get (ref := "ProxyVersions$State") (index := 21) (v := .ref (ad 51)) X oS0 inX5_addChild_X5 rfl 7 (by decide) (List.mem_of_getElem? (i := 2) rfl) rfl rfl dX5_addChild_11 ?_
  refine j_alen X 0 rfl i51 dX5_addChild_14 ?_
  refine j_icmp_ge (tgt := 35) X dX5_addChild_15 (by decide) (fun c => ?_) (fun c => ?_)
  · replace hf := f_t c hf
    refine j_iload_n X 2 dX5_addChild_35 rfl rfl ?_
    exact j_iret X Y (f_p1 hf) (f_p2 hf) dX5_addChild_36
  replace hf := f_f c hf
  refine j_aload_n X 0 dX5_addChild_18 rfl rfl ?_
  refine j_get (ref := "ProxyVersions$State") (index := 21) (v := .ref (ad 51)) X oS0 inX5_addChild_X5 rfl 7 (by decide) (List.mem_of_getElem? (i := 2) rfl) rfl rfl dX5_addChild_19 ?_
  refine j_iload_n X 2 dX5_addChild_22 rfl rfl ?_
  refine j_iload_n X 1 dX5_addChild_23 rfl rfl ?_
  obtain ⟨hi2, hf⟩ := f_c hf
  obtain ⟨w3, ew3, hf⟩ := f_lt hf
  refine j_iast X 0 rfl i51 hi2 dX5_addChild_24 ew3 ?_
  refine j_aload_n X 0 dX5_addChild_25 rfl rfl ?_
  refine j_dup X rfl dX5_addChild_26 ?_
  refine j_get (ref := "ProxyVersions$State") (index := 9) (v := .int (w3 50 0)) X oS0 inX5_addChild_X5 rfl 0 (by decide) (List.mem_of_getElem? (i := 1) rfl) rfl rfl dX5_addChild_27 ?_
  refine j_iconst X (v := (nI 1)) (by decide) dX5_addChild_30 ?_
  refine j_iadd X dX5_addChild_31 ?_
  obtain ⟨w4, ew4, hf⟩ := f_lt hf
  refine j_put (ref := "ProxyVersions$State") (index := 9)  X oS0 inX5_addChild_X5 tyX5_ok nmX5 rfl 0 (by decide) (List.mem_of_getElem? (i := 1) rfl) rfl rfl rfl (Nat.le_of_ble_eq_true rfl) rfl dX5_addChild_32 ew4 ?_
  refine j_iload_n X 2 dX5_addChild_35 rfl rfl ?_
  exact j_iret X Y (f_p1 hf) (f_p2 hf) dX5_addChild_36
abbrev rmX3_insertProxy : Room := { frames := 1, cells := 0, slots := 0, locals := 22 }
theorem inX3_insertProxy_X3 : ∀ w ∈ wsX30, w ∈ wsX3_insertProxy := fun _ h => List.mem_cons_of_mem _ (List.mem_append_left _ (List.mem_append_right _ h))
theorem inX3_insertProxy_X5 : ∀ w ∈ wsX50, w ∈ wsX3_insertProxy := fun _ h => List.mem_cons_of_mem _ (List.mem_append_right _ h)
set_option maxRecDepth 100000 in
set_option maxHeartbeats 4000000 in
theorem c_X3_insertProxy (hI : Inj 490 ad) {x1 : Int32} {w : Wd} {out : Int32 × Wd} (hf : m_X3_insertProxy x1 w = some out) : Met l yX3_insertProxy wsX3_insertProxy rmX3_insertProxy (va_Pc [.ref (ad 476), .int x1] (PW D (tC cI cL cS) 490 ad (cellC cI cL cS ad) w)) (QWi D 490 ad (cellC cI cL cS ad) out.1 out.2) 0 0 (AW 490 ad) := by
  refine mk_met (maxL := 2) (ret := (some .int)) RX3 hI (by decide) rfl rfl (Nat.le_of_ble_eq_true rfl) rfl rfl (fun p e s m args below meth c X Y => ?_)
  unfold m_X3_insertProxy at hf
  refine j_aload_n X 0 dX3_insertProxy_0 rfl rfl ?_
  refine j_get (ref := "ProxyVersions$Network") (index := 20) (v := .ref (ad 50)) X oNe inX3_insertProxy_X3 rfl 0 (by decide) (List.mem_of_getElem? (i := 1) rfl) rfl rfl dX3_insertProxy_1 ?_
  refine j_iload_n X 1 dX3_insertProxy_4 rfl rfl ?_
  obtain ⟨o1, ho1, hf⟩ := f_bd hf
  refine j_callVi X oS0 rfl rfl [.int x1] (c_X5_hasProxy X.2.2.2.2.2.2.2 ho1) (cwV 1 X.2.2.2.2.1 gX3_insertProxy_X5_hasProxy rfl rfl rfl (by decide +kernel) ⟨Nat.le_of_ble_eq_true rfl, Nat.le_of_ble_eq_true rfl⟩) rfl rfl (Nat.le_of_ble_eq_true rfl) dX3_insertProxy_5 ?_
  refine j_if_ne (tgt := 13) X dX3_insertProxy_8 (by decide) (fun c => ?_) (fun c => ?_)
  · replace hf := f_t c hf
    refine j_aload_n X 0 dX3_insertProxy_13 rfl rfl ?_
    refine j_get (ref := "ProxyVersions$Network") (index := 20) (v := .ref (ad 50)) X oNe inX3_insertProxy_X3 rfl 0 (by decide) (List.mem_of_getElem? (i := 1) rfl) rfl rfl dX3_insertProxy_14 ?_
    refine j_getN (ref := "ProxyVersions$State") (index := 34) (host := "ProxyVersions") (v := .int (w 50 0)) X oS0 inX3_insertProxy_X5 rfl 0 (by decide) (List.mem_of_getElem? (i := 11) rfl) rfl rfl dX3_insertProxy_17 ?_
    refine j_bipush X (v := (nI 8)) (by decide) dX3_insertProxy_20 ?_
    refine j_icmp_lt (tgt := 28) X dX3_insertProxy_22 (by decide) (fun c => ?_) (fun c => ?_)
    · replace hf := f_t c hf
      refine j_aload_n X 0 dX3_insertProxy_28 rfl rfl ?_
      refine j_get (ref := "ProxyVersions$Network") (index := 20) (v := .ref (ad 50)) X oNe inX3_insertProxy_X3 rfl 0 (by decide) (List.mem_of_getElem? (i := 1) rfl) rfl rfl dX3_insertProxy_29 ?_
      refine j_iload_n X 1 dX3_insertProxy_32 rfl rfl ?_
      obtain ⟨o2, ho2, hf⟩ := f_bd hf
      refine j_callVi X oS0 rfl rfl [.int x1] (c_X5_addChild X.2.2.2.2.2.2.2 ho2) (cwV 1 X.2.2.2.2.1 gX3_insertProxy_X5_addChild rfl rfl rfl (by decide +kernel) ⟨Nat.le_of_ble_eq_true rfl, Nat.le_of_ble_eq_true rfl⟩) rfl rfl (Nat.le_of_ble_eq_true rfl) dX3_insertProxy_33 ?_
      exact j_iret X Y (f_p1 hf) (f_p2 hf) dX3_insertProxy_36
    replace hf := f_f c hf
    refine j_bipush X (v := (-3 : Int32)) (by decide) dX3_insertProxy_25 ?_
    exact j_iret X Y (f_p1 hf) (f_p2 hf) dX3_insertProxy_27
  replace hf := f_fn c hf
  refine j_iconst X (v := (-1 : Int32)) (by decide) dX3_insertProxy_11 ?_
  exact j_iret X Y (f_p1 hf) (f_p2 hf) dX3_insertProxy_12
abbrev rmX7_isOrigin : Room := { frames := 0, cells := 0, slots := 0, locals := 0 }
set_option maxRecDepth 100000 in
set_option maxHeartbeats 4000000 in
theorem c_X7_isOrigin (hI : Inj 490 ad) {x0 : Int32} {w : Wd} {out : Int32} (hf : m_X7_isOrigin x0 = some out) : Met l yX7_isOrigin wsX7_isOrigin rmX7_isOrigin (va_Pc [.int x0] (PW D (tC cI cL cS) 490 ad (cellC cI cL cS ad) w)) (QWi D 490 ad (cellC cI cL cS ad) out w) 0 0 (AW 490 ad) := by
  refine mk_met (maxL := 1) (ret := (some .boolean)) RX7 hI (by decide) rfl rfl (Nat.le_of_ble_eq_true rfl) rfl rfl (fun p e s m args below meth c X Y => ?_)
  unfold m_X7_isOrigin at hf
  refine j_iload_n X 0 dX7_isOrigin_0 rfl rfl ?_
  refine j_if_lt (tgt := 13) X dX7_isOrigin_1 (by decide) (fun c => ?_) (fun c => ?_)
  · replace hf := f_t c hf
    refine j_iconst X (v := (nI 0)) (by decide) dX7_isOrigin_13 ?_
    exact j_bret X Y (Eq.trans (by decide : (nI 0) &&& 1 = (nI 0)) (f_s hf)) rfl dX7_isOrigin_14
  replace hf := f_f c hf
  refine j_iload_n X 0 dX7_isOrigin_4 rfl rfl ?_
  refine j_iconst X (v := (nI 4)) (by decide) dX7_isOrigin_5 ?_
  refine j_icmp_ge (tgt := 13) X dX7_isOrigin_6 (by decide) (fun c => ?_) (fun c => ?_)
  · replace hf := f_t c hf
    refine j_iconst X (v := (nI 0)) (by decide) dX7_isOrigin_13 ?_
    exact j_bret X Y (Eq.trans (by decide : (nI 0) &&& 1 = (nI 0)) (f_s hf)) rfl dX7_isOrigin_14
  replace hf := f_f c hf
  refine j_iconst X (v := (nI 1)) (by decide) dX7_isOrigin_9 ?_
  refine j_goto (tgt := 14) X dX7_isOrigin_10 (by decide) ?_
  exact j_bret X Y (Eq.trans (by decide : (nI 1) &&& 1 = (nI 1)) (f_s hf)) rfl dX7_isOrigin_14
abbrev rmX5_writtenOf : Room := { frames := 0, cells := 0, slots := 0, locals := 0 }
theorem inX5_writtenOf_X5 : ∀ w ∈ wsX50, w ∈ wsX5_writtenOf := fun _ h => List.mem_cons_of_mem _ (List.mem_append_right _ h)
set_option maxRecDepth 100000 in
set_option maxHeartbeats 4000000 in
theorem c_X5_writtenOf (hI : Inj 490 ad) {x1 : Int32} {w : Wd} {out : Int32} (hf : m_X5_writtenOf x1 w = some out) : Met l yX5_writtenOf wsX5_writtenOf rmX5_writtenOf (va_Pc [.ref (ad 50), .int x1] (PW D (tC cI cL cS) 490 ad (cellC cI cL cS ad) w)) (QWi D 490 ad (cellC cI cL cS ad) out w) 0 0 (AW 490 ad) := by
  refine mk_met (maxL := 2) (ret := (some .int)) RX5 hI (by decide) rfl rfl (Nat.le_of_ble_eq_true rfl) rfl rfl (fun p e s m args below meth c X Y => ?_)
  unfold m_X5_writtenOf at hf
  refine j_iload_n X 1 dX5_writtenOf_0 rfl rfl ?_
  refine j_if_lt (tgt := 22) X dX5_writtenOf_1 (by decide) (fun c => ?_) (fun c => ?_)
  · replace hf := f_t c hf
    refine j_iconst X (v := (nI 0)) (by decide) dX5_writtenOf_22 ?_
    exact j_iret X Y (f_s hf) rfl dX5_writtenOf_23
  replace hf := f_f c hf
  refine j_iload_n X 1 dX5_writtenOf_4 rfl rfl ?_
  refine j_aload_n X 0 dX5_writtenOf_5 rfl rfl ?_
  refine j_get (ref := "ProxyVersions$State") (index := 28) (v := .ref (ad 53)) X oS0 inX5_writtenOf_X5 rfl 9 (by decide) (List.mem_of_getElem? (i := 1) rfl) rfl rfl dX5_writtenOf_6 ?_
  refine j_alen X 0 rfl i53 dX5_writtenOf_9 ?_
  refine j_icmp_ge (tgt := 22) X dX5_writtenOf_10 (by decide) (fun c => ?_) (fun c => ?_)
  · replace hf := f_t c hf
    refine j_iconst X (v := (nI 0)) (by decide) dX5_writtenOf_22 ?_
    exact j_iret X Y (f_s hf) rfl dX5_writtenOf_23
  replace hf := f_f c hf
  refine j_aload_n X 0 dX5_writtenOf_13 rfl rfl ?_
  refine j_get (ref := "ProxyVersions$State") (index := 28) (v := .ref (ad 53)) X oS0 inX5_writtenOf_X5 rfl 9 (by decide) (List.mem_of_getElem? (i := 1) rfl) rfl rfl dX5_writtenOf_14 ?_
  refine j_iload_n X 1 dX5_writtenOf_17 rfl rfl ?_
  obtain ⟨hi1, hf⟩ := f_c hf
  refine j_iald X 0 rfl i53 hi1 dX5_writtenOf_18 ?_
  refine j_goto (tgt := 23) X dX5_writtenOf_19 (by decide) ?_
  exact j_iret X Y (f_s hf) rfl dX5_writtenOf_23
abbrev rmX5_homeOf : Room := { frames := 0, cells := 0, slots := 0, locals := 0 }
theorem inX5_homeOf_X5 : ∀ w ∈ wsX50, w ∈ wsX5_homeOf := fun _ h => List.mem_cons_of_mem _ (List.mem_append_right _ h)
set_option maxRecDepth 100000 in
set_option maxHeartbeats 4000000 in
theorem c_X5_homeOf (hI : Inj 490 ad) {x1 : Int32} {w : Wd} {out : Int32} (hf : m_X5_homeOf x1 w = some out) : Met l yX5_homeOf wsX5_homeOf rmX5_homeOf (va_Pc [.ref (ad 50), .int x1] (PW D (tC cI cL cS) 490 ad (cellC cI cL cS ad) w)) (QWi D 490 ad (cellC cI cL cS ad) out w) 0 0 (AW 490 ad) := by
  refine mk_met (maxL := 2) (ret := (some .int)) RX5 hI (by decide) rfl rfl (Nat.le_of_ble_eq_true rfl) rfl rfl (fun p e s m args below meth c X Y => ?_)
  unfold m_X5_homeOf at hf
  refine j_iload_n X 1 dX5_homeOf_0 rfl rfl ?_
  refine j_if_lt (tgt := 22) X dX5_homeOf_1 (by decide) (fun c => ?_) (fun c => ?_)
  · replace hf := f_t c hf
    refine j_iconst X (v := (nI 0)) (by decide) dX5_homeOf_22 ?_
    exact j_iret X Y (f_s hf) rfl dX5_homeOf_23
  replace hf := f_f c hf
  refine j_iload_n X 1 dX5_homeOf_4 rfl rfl ?_
  refine j_aload_n X 0 dX5_homeOf_5 rfl rfl ?_
  refine j_get (ref := "ProxyVersions$State") (index := 25) (v := .ref (ad 52)) X oS0 inX5_homeOf_X5 rfl 8 (by decide) (List.mem_of_getElem? (i := 1) rfl) rfl rfl dX5_homeOf_6 ?_
  refine j_alen X 0 rfl i52 dX5_homeOf_9 ?_
  refine j_icmp_ge (tgt := 22) X dX5_homeOf_10 (by decide) (fun c => ?_) (fun c => ?_)
  · replace hf := f_t c hf
    refine j_iconst X (v := (nI 0)) (by decide) dX5_homeOf_22 ?_
    exact j_iret X Y (f_s hf) rfl dX5_homeOf_23
  replace hf := f_f c hf
  refine j_aload_n X 0 dX5_homeOf_13 rfl rfl ?_
  refine j_get (ref := "ProxyVersions$State") (index := 25) (v := .ref (ad 52)) X oS0 inX5_homeOf_X5 rfl 8 (by decide) (List.mem_of_getElem? (i := 1) rfl) rfl rfl dX5_homeOf_14 ?_
  refine j_iload_n X 1 dX5_homeOf_17 rfl rfl ?_
  obtain ⟨hi1, hf⟩ := f_c hf
  refine j_iald X 0 rfl i52 hi1 dX5_homeOf_18 ?_
  refine j_goto (tgt := 23) X dX5_homeOf_19 (by decide) ?_
  exact j_iret X Y (f_s hf) rfl dX5_homeOf_23
abbrev rmX5_setHomeOf : Room := { frames := 0, cells := 0, slots := 0, locals := 0 }
theorem inX5_setHomeOf_X5 : ∀ w ∈ wsX50, w ∈ wsX5_setHomeOf := fun _ h => List.mem_cons_of_mem _ (List.mem_append_right _ h)
set_option maxRecDepth 100000 in
set_option maxHeartbeats 4000000 in
theorem c_X5_setHomeOf (hI : Inj 490 ad) {x1 : Int32} {x2 : Int32} {w : Wd} {out : Wd} (hf : m_X5_setHomeOf x1 x2 w = some out) : Met l yX5_setHomeOf wsX5_setHomeOf rmX5_setHomeOf (va_Pc [.ref (ad 50), .int x1, .int x2] (PW D (tC cI cL cS) 490 ad (cellC cI cL cS ad) w)) (QWv D 490 ad (cellC cI cL cS ad) out) 0 0 (AW 490 ad) := by
  refine mk_met (maxL := 3) (ret := none) RX5 hI (by decide) rfl rfl (Nat.le_of_ble_eq_true rfl) rfl rfl (fun p e s m args below meth c X Y => ?_)
  unfold m_X5_setHomeOf at hf
  refine j_iload_n X 1 dX5_setHomeOf_0 rfl rfl ?_
  refine j_if_lt (tgt := 20) X dX5_setHomeOf_1 (by decide) (fun c => ?_) (fun c => ?_)
  · replace hf := f_t c hf
    exact j_vret X Y (f_s hf) dX5_setHomeOf_20
  replace hf := f_f c hf
  refine j_iload_n X 1 dX5_setHomeOf_4 rfl rfl ?_
  refine j_aload_n X 0 dX5_setHomeOf_5 rfl rfl ?_
  refine j_get (ref := "ProxyVersions$State") (index := 25) (v := .ref (ad 52)) X oS0 inX5_setHomeOf_X5 rfl 8 (by decide) (List.mem_of_getElem? (i := 1) rfl) rfl rfl dX5_setHomeOf_6 ?_
  refine j_alen X 0 rfl i52 dX5_setHomeOf_9 ?_
  refine j_icmp_ge (tgt := 20) X dX5_setHomeOf_10 (by decide) (fun c => ?_) (fun c => ?_)
  · replace hf := f_t c hf
    exact j_vret X Y (f_s hf) dX5_setHomeOf_20
  replace hf := f_f c hf
  refine j_aload_n X 0 dX5_setHomeOf_13 rfl rfl ?_
  refine j_get (ref := "ProxyVersions$State") (index := 25) (v := .ref (ad 52)) X oS0 inX5_setHomeOf_X5 rfl 8 (by decide) (List.mem_of_getElem? (i := 1) rfl) rfl rfl dX5_setHomeOf_14 ?_
  refine j_iload_n X 1 dX5_setHomeOf_17 rfl rfl ?_
  refine j_iload_n X 2 dX5_setHomeOf_18 rfl rfl ?_
  obtain ⟨hi1, hf⟩ := f_c hf
  obtain ⟨w2, ew2, hf⟩ := f_lt hf
  refine j_iast X 0 rfl i52 hi1 dX5_setHomeOf_19 ew2 ?_
  exact j_vret X Y (f_s hf) dX5_setHomeOf_20
abbrev rmX3_changeHome : Room := { frames := 1, cells := 0, slots := 0, locals := 22 }
theorem inX3_changeHome_X3 : ∀ w ∈ wsX30, w ∈ wsX3_changeHome := fun _ h => List.mem_cons_of_mem _ (List.mem_append_left _ (List.mem_append_right _ h))
set_option maxRecDepth 100000 in
set_option maxHeartbeats 4000000 in
theorem c_X3_changeHome (hI : Inj 490 ad) {x1 : Int32} {x2 : Int32} {w : Wd} {out : Int32 × Wd} (hf : m_X3_changeHome x1 x2 w = some out) : Met l yX3_changeHome wsX3_changeHome rmX3_changeHome (va_Pc [.ref (ad 476), .int x1, .int x2] (PW D (tC cI cL cS) 490 ad (cellC cI cL cS ad) w)) (QWi D 490 ad (cellC cI cL cS ad) out.1 out.2) 0 0 (AW 490 ad) := by
  refine mk_met (maxL := 4) (ret := (some .int)) RX3 hI (by decide) rfl rfl (Nat.le_of_ble_eq_true rfl) rfl rfl (fun p e s m args below meth c X Y => ?_)
  unfold m_X3_changeHome at hf
  refine j_iload_n X 1 dX3_changeHome_0 rfl rfl ?_
  obtain ⟨o1, ho1, hf⟩ := f_bd hf
  refine j_callSNi X [.int x1] (c_X7_isOrigin X.2.2.2.2.2.2.2 ho1) ⟨va_cnB 1 X.2.2.2.2.1 gX3_changeHome_X7_isOrigin_n42 rfl rfl rfl (X.2.2.2.2.2.2.1.2 ("ProxyVersions$Network", 42, ⟨"ProxyVersions", "isOrigin", "(I)Z"⟩, "ProxyVersions") (List.mem_of_getElem? (i := 3) rfl)) (X.2.2.2.2.1 _ (List.mem_of_getElem? (i := 3) rfl)) (by decide +kernel) ⟨Nat.le_of_ble_eq_true rfl, Nat.le_of_ble_eq_true rfl⟩, X.2.2.2.2.1 _ (List.mem_of_getElem? (i := 2) rfl), trivial⟩ rfl rfl (Nat.le_of_ble_eq_true rfl) dX3_changeHome_1 ?_
  refine j_if_eq (tgt := 18) X dX3_changeHome_4 (by decide) (fun c => ?_) (fun c => ?_)
  · replace hf := f_t c hf
    refine j_iconst X (v := (-1 : Int32)) (by decide) dX3_changeHome_18 ?_
    exact j_iret X Y (f_p1 hf) (f_p2 hf) dX3_changeHome_19
  replace hf := f_f c hf
  refine j_aload_n X 0 dX3_changeHome_7 rfl rfl ?_
  refine j_get (ref := "ProxyVersions$Network") (index := 20) (v := .ref (ad 50)) X oNe inX3_changeHome_X3 rfl 0 (by decide) (List.mem_of_getElem? (i := 1) rfl) rfl rfl dX3_changeHome_8 ?_
  refine j_iload_n X 2 dX3_changeHome_11 rfl rfl ?_
  obtain ⟨o2, ho2, hf⟩ := f_bd hf
  refine j_callVi X oS0 rfl rfl [.int x2] (c_X5_hasProxy X.2.2.2.2.2.2.2 ho2) (cwV 1 X.2.2.2.2.1 gX3_changeHome_X5_hasProxy rfl rfl rfl (by decide +kernel) ⟨Nat.le_of_ble_eq_true rfl, Nat.le_of_ble_eq_true rfl⟩) rfl rfl (Nat.le_of_ble_eq_true rfl) dX3_changeHome_12 ?_
  refine j_if_ne (tgt := 20) X dX3_changeHome_15 (by decide) (fun c => ?_) (fun c => ?_)
  · replace hf := f_t c hf
    refine j_aload_n X 0 dX3_changeHome_20 rfl rfl ?_
    refine j_get (ref := "ProxyVersions$Network") (index := 20) (v := .ref (ad 50)) X oNe inX3_changeHome_X3 rfl 0 (by decide) (List.mem_of_getElem? (i := 1) rfl) rfl rfl dX3_changeHome_21 ?_
    refine j_iload_n X 1 dX3_changeHome_24 rfl rfl ?_
    obtain ⟨o3, ho3, hf⟩ := f_bd hf
    refine j_callVi X oS0 rfl rfl [.int x1] (c_X5_writtenOf X.2.2.2.2.2.2.2 ho3) (cwV 1 X.2.2.2.2.1 gX3_changeHome_X5_writtenOf rfl rfl rfl (by decide +kernel) ⟨Nat.le_of_ble_eq_true rfl, Nat.le_of_ble_eq_true rfl⟩) rfl rfl (Nat.le_of_ble_eq_true rfl) dX3_changeHome_25 ?_
    refine j_if_le (tgt := 34) X dX3_changeHome_28 (by decide) (fun c => ?_) (fun c => ?_)
    · replace hf := f_t c hf
      refine j_aload_n X 0 dX3_changeHome_34 rfl rfl ?_
      refine j_get (ref := "ProxyVersions$Network") (index := 20) (v := .ref (ad 50)) X oNe inX3_changeHome_X3 rfl 0 (by decide) (List.mem_of_getElem? (i := 1) rfl) rfl rfl dX3_changeHome_35 ?_
      refine j_iload_n X 1 dX3_changeHome_38 rfl rfl ?_
      obtain ⟨o4, ho4, hf⟩ := f_bd hf
      refine j_callVi X oS0 rfl rfl [.int x1] (c_X5_homeOf X.2.2.2.2.2.2.2 ho4) (cwV 1 X.2.2.2.2.1 gX3_changeHome_X5_homeOf rfl rfl rfl (by decide +kernel) ⟨Nat.le_of_ble_eq_true rfl, Nat.le_of_ble_eq_true rfl⟩) rfl rfl (Nat.le_of_ble_eq_true rfl) dX3_changeHome_39 ?_
      refine j_istore_n (lv' := [(0, .ref (ad 476)), (1, .int x1), (2, .int x2), (3, .int o4)]) X dX3_changeHome_42 rfl (by decide) rfl ?_
      refine j_aload_n X 0 dX3_changeHome_43 rfl rfl ?_
      refine j_get (ref := "ProxyVersions$Network") (index := 20) (v := .ref (ad 50)) X oNe inX3_changeHome_X3 rfl 0 (by decide) (List.mem_of_getElem? (i := 1) rfl) rfl rfl dX3_changeHome_44 ?_
      refine j_iload_n X 1 dX3_changeHome_47 rfl rfl ?_
      refine j_iload_n X 2 dX3_changeHome_48 rfl rfl ?_
      obtain ⟨o5, ho5, hf⟩ := f_bd hf
      refine j_callVv X oS0 rfl rfl [.int x1, .int x2] (c_X5_setHomeOf X.2.2.2.2.2.2.2 ho5) (cwV 2 X.2.2.2.2.1 gX3_changeHome_X5_setHomeOf rfl rfl rfl (by decide +kernel) ⟨Nat.le_of_ble_eq_true rfl, Nat.le_of_ble_eq_true rfl⟩) rfl rfl (Nat.le_of_ble_eq_true rfl) dX3_changeHome_49 ?_
      refine j_iload_n X 3 dX3_changeHome_52 rfl rfl ?_
      exact j_iret X Y (f_p1 hf) (f_p2 hf) dX3_changeHome_53
    replace hf := f_f c hf
    refine j_bipush X (v := (-2 : Int32)) (by decide) dX3_changeHome_31 ?_
    exact j_iret X Y (f_p1 hf) (f_p2 hf) dX3_changeHome_33
  replace hf := f_fn c hf
  refine j_iconst X (v := (-1 : Int32)) (by decide) dX3_changeHome_18 ?_
  exact j_iret X Y (f_p1 hf) (f_p2 hf) dX3_changeHome_19
abbrev rmX3_changeLimits : Room := { frames := 0, cells := 0, slots := 0, locals := 0 }
theorem inX3_changeLimits_X3 : ∀ w ∈ wsX30, w ∈ wsX3_changeLimits := fun _ h => List.mem_cons_of_mem _ (List.mem_append_left _ (List.mem_append_right _ h))
theorem inX3_changeLimits_X5 : ∀ w ∈ wsX50, w ∈ wsX3_changeLimits := fun _ h => List.mem_cons_of_mem _ (List.mem_append_right _ h)
set_option maxRecDepth 100000 in
set_option maxHeartbeats 4000000 in
theorem t_X3_changeLimits_j50 (X : CX p rmX3_changeLimits s m args c cX3_changeLimits 4 RX3 wsX3_changeLimits D (tC cI cL cS) 490 ad) (Y : RX meth (some .int)) {x1 : Int32} {x2 : Int32} {s0 : Int32} {w : Wd} {out : Int32 × Wd} (hf : m_X3_changeLimits_j50 x1 x2 s0 w = some out) : WJ p l e rmX3_changeLimits s m args below meth c (MQ below (QWi D 490 ad (cellC cI cL cS ad) out.1 out.2) args s 0 0 (AW 490 ad)) 4 D 490 ad (cellC cI cL cS ad) w 50 [(0, .ref (ad 476)), (1, .int x1), (2, .int x2)] [.int s0] := by
  unfold m_X3_changeLimits_j50 at hf
  refine j_istore_n (lv' := [(0, .ref (ad 476)), (1, .int x1), (2, .int x2), (3, .int s0)]) X dX3_changeLimits_50 rfl (by decide) rfl ?_
  refine j_aload_n X 0 dX3_changeLimits_51 rfl rfl ?_
  refine j_get (ref := "ProxyVersions$Network") (index := 20) (v := .ref (ad 50)) X oNe inX3_changeLimits_X3 rfl 0 (by decide) (List.mem_of_getElem? (i := 1) rfl) rfl rfl dX3_changeLimits_52 ?_
  refine j_iload_n X 1 dX3_changeLimits_55 rfl rfl ?_
  obtain ⟨w1, ew1, hf⟩ := f_lt hf
  refine j_putN (ref := "ProxyVersions$State") (index := 55) (host := "ProxyVersions")  X oS0 inX3_changeLimits_X5 tyX5_ok nmX5 rfl 1 (by decide) (List.mem_of_getElem? (i := 12) rfl) rfl rfl rfl (Nat.le_of_ble_eq_true rfl) rfl dX3_changeLimits_56 ew1 ?_
  refine j_aload_n X 0 dX3_changeLimits_59 rfl rfl ?_
  refine j_get (ref := "ProxyVersions$Network") (index := 20) (v := .ref (ad 50)) X oNe inX3_changeLimits_X3 rfl 0 (by decide) (List.mem_of_getElem? (i := 1) rfl) rfl rfl dX3_changeLimits_60 ?_
  refine j_iload_n X 2 dX3_changeLimits_63 rfl rfl ?_
  obtain ⟨w2, ew2, hf⟩ := f_lt hf
  refine j_putN (ref := "ProxyVersions$State") (index := 58) (host := "ProxyVersions")  X oS0 inX3_changeLimits_X5 tyX5_ok nmX5 rfl 2 (by decide) (List.mem_of_getElem? (i := 13) rfl) rfl rfl rfl (Nat.le_of_ble_eq_true rfl) rfl dX3_changeLimits_64 ew2 ?_
  refine j_iload_n X 3 dX3_changeLimits_67 rfl rfl ?_
  refine j_if_eq (tgt := 75) X dX3_changeLimits_68 (by decide) (fun c => ?_) (fun c => ?_)
  · replace hf := f_t c hf
    refine j_iconst X (v := (nI 0)) (by decide) dX3_changeLimits_75 ?_
    exact j_iret X Y (f_p1 hf) (f_p2 hf) dX3_changeLimits_76
  replace hf := f_f c hf
  refine j_iconst X (v := (nI 1)) (by decide) dX3_changeLimits_71 ?_
  refine j_goto (tgt := 76) X dX3_changeLimits_72 (by decide) ?_
  exact j_iret X Y (f_p1 hf) (f_p2 hf) dX3_changeLimits_76
set_option maxRecDepth 100000 in
set_option maxHeartbeats 4000000 in
theorem t_X3_changeLimits_j45 (X : CX p rmX3_changeLimits s m args c cX3_changeLimits 4 RX3 wsX3_changeLimits D (tC cI cL cS) 490 ad) (Y : RX meth (some .int)) {x1 : Int32} {x2 : Int32} {w : Wd} {out : Int32 × Wd} (hf : m_X3_changeLimits_j45 x1 x2 w = some out) : WJ p l e rmX3_changeLimits s m args below meth c (MQ below (QWi D 490 ad (cellC cI cL cS ad) out.1 out.2) args s 0 0 (AW 490 ad)) 4 D 490 ad (cellC cI cL cS ad) w 45 [(0, .ref (ad 476)), (1, .int x1), (2, .int x2)] [] := by
  unfold m_X3_changeLimits_j45 at hf
  refine j_iconst X (v := (nI 1)) (by decide) dX3_changeLimits_45 ?_
  refine j_goto (tgt := 50) X dX3_changeLimits_46 (by decide) ?_
  exact t_X3_changeLimits_j50 X Y hf
set_option maxRecDepth 100000 in
set_option maxHeartbeats 4000000 in
theorem c_X3_changeLimits (hI : Inj 490 ad) {x1 : Int32} {x2 : Int32} {w : Wd} {out : Int32 × Wd} (hf : m_X3_changeLimits x1 x2 w = some out) : Met l yX3_changeLimits wsX3_changeLimits rmX3_changeLimits (va_Pc [.ref (ad 476), .int x1, .int x2] (PW D (tC cI cL cS) 490 ad (cellC cI cL cS ad) w)) (QWi D 490 ad (cellC cI cL cS ad) out.1 out.2) 0 0 (AW 490 ad) := by
  refine mk_met (maxL := 4) (ret := (some .int)) RX3 hI (by decide) rfl rfl (Nat.le_of_ble_eq_true rfl) rfl rfl (fun p e s m args below meth c X Y => ?_)
  unfold m_X3_changeLimits at hf
  refine j_iload_n X 1 dX3_changeLimits_0 rfl rfl ?_
  refine j_if_lt (tgt := 21) X dX3_changeLimits_1 (by decide) (fun c => ?_) (fun c => ?_)
  · replace hf := f_t c hf
    refine j_iconst X (v := (-1 : Int32)) (by decide) dX3_changeLimits_21 ?_
    exact j_iret X Y (f_p1 hf) (f_p2 hf) dX3_changeLimits_22
  replace hf := f_f c hf
  refine j_iload_n X 1 dX3_changeLimits_4 rfl rfl ?_
  refine j_bipush X (v := (nI 8)) (by decide) dX3_changeLimits_5 ?_
  refine j_icmp_gt (tgt := 21) X dX3_changeLimits_7 (by decide) (fun c => ?_) (fun c => ?_)
  · replace hf := f_t c hf
    refine j_iconst X (v := (-1 : Int32)) (by decide) dX3_changeLimits_21 ?_
    exact j_iret X Y (f_p1 hf) (f_p2 hf) dX3_changeLimits_22
  replace hf := f_f c hf
  refine j_iload_n X 2 dX3_changeLimits_10 rfl rfl ?_
  refine j_iconst X (v := (nI 1)) (by decide) dX3_changeLimits_11 ?_
  refine j_icmp_lt (tgt := 21) X dX3_changeLimits_12 (by decide) (fun c => ?_) (fun c => ?_)
  · replace hf := f_t c hf
    refine j_iconst X (v := (-1 : Int32)) (by decide) dX3_changeLimits_21 ?_
    exact j_iret X Y (f_p1 hf) (f_p2 hf) dX3_changeLimits_22
  replace hf := f_f c hf
  refine j_iload_n X 2 dX3_changeLimits_15 rfl rfl ?_
  refine j_bipush X (v := (nI 12)) (by decide) dX3_changeLimits_16 ?_
  refine j_icmp_le (tgt := 23) X dX3_changeLimits_18 (by decide) (fun c => ?_) (fun c => ?_)
  · replace hf := f_t c hf
    refine j_iload_n X 1 dX3_changeLimits_23 rfl rfl ?_
    refine j_aload_n X 0 dX3_changeLimits_24 rfl rfl ?_
    refine j_get (ref := "ProxyVersions$Network") (index := 20) (v := .ref (ad 50)) X oNe inX3_changeLimits_X3 rfl 0 (by decide) (List.mem_of_getElem? (i := 1) rfl) rfl rfl dX3_changeLimits_25 ?_
    refine j_getN (ref := "ProxyVersions$State") (index := 55) (host := "ProxyVersions") (v := .int (w 50 1)) X oS0 inX3_changeLimits_X5 rfl 1 (by decide) (List.mem_of_getElem? (i := 12) rfl) rfl rfl dX3_changeLimits_28 ?_
    refine j_icmp_ne (tgt := 45) X dX3_changeLimits_31 (by decide) (fun c => ?_) (fun c => ?_)
    · replace hf := f_t c hf
      exact t_X3_changeLimits_j45 X Y hf
    replace hf := f_fn c hf
    refine j_iload_n X 2 dX3_changeLimits_34 rfl rfl ?_
    refine j_aload_n X 0 dX3_changeLimits_35 rfl rfl ?_
    refine j_get (ref := "ProxyVersions$Network") (index := 20) (v := .ref (ad 50)) X oNe inX3_changeLimits_X3 rfl 0 (by decide) (List.mem_of_getElem? (i := 1) rfl) rfl rfl dX3_changeLimits_36 ?_
    refine j_getN (ref := "ProxyVersions$State") (index := 58) (host := "ProxyVersions") (v := .int (w 50 2)) X oS0 inX3_changeLimits_X5 rfl 2 (by decide) (List.mem_of_getElem? (i := 13) rfl) rfl rfl dX3_changeLimits_39 ?_
    refine j_icmp_eq (tgt := 49) X dX3_changeLimits_42 (by decide) (fun c => ?_) (fun c => ?_)
    · replace hf := f_t c hf
      refine j_iconst X (v := (nI 0)) (by decide) dX3_changeLimits_49 ?_
      exact t_X3_changeLimits_j50 X Y hf
    replace hf := f_f c hf
    exact t_X3_changeLimits_j45 X Y hf
  replace hf := f_f c hf
  refine j_iconst X (v := (-1 : Int32)) (by decide) dX3_changeLimits_21 ?_
  exact j_iret X Y (f_p1 hf) (f_p2 hf) dX3_changeLimits_22
abbrev rmX5_setCause : Room := { frames := 0, cells := 0, slots := 0, locals := 0 }
theorem inX5_setCause_X5 : ∀ w ∈ wsX50, w ∈ wsX5_setCause := fun _ h => List.mem_cons_of_mem _ (List.mem_append_right _ h)
set_option maxRecDepth 100000 in
set_option maxHeartbeats 4000000 in
theorem c_X5_setCause (hI : Inj 490 ad) {x1 : Int32} {x2 : Int32} {x3 : Int32} {x4 : Int32} {w : Wd} {out : Wd} (hf : m_X5_setCause x1 x2 x3 x4 w = some out) : Met l yX5_setCause wsX5_setCause rmX5_setCause (va_Pc [.ref (ad 50), .int x1, .int x2, .int x3, .int x4] (PW D (tC cI cL cS) 490 ad (cellC cI cL cS ad) w)) (QWv D 490 ad (cellC cI cL cS ad) out) 0 0 (AW 490 ad) := by
  refine mk_met (maxL := 6) (ret := none) RX5 hI (by decide) rfl rfl (Nat.le_of_ble_eq_true rfl) rfl rfl (fun p e s m args below meth c X Y => ?_)
  unfold m_X5_setCause at hf
  refine j_iload_n X 1 dX5_setCause_0 rfl rfl ?_
  refine j_bipush X (v := (nI 24)) (by decide) dX5_setCause_1 ?_
  refine j_imul X dX5_setCause_3 ?_
  refine j_iload_n X 2 dX5_setCause_4 rfl rfl ?_
  refine j_iadd X dX5_setCause_5 ?_
  refine j_iconst X (v := (nI 1)) (by decide) dX5_setCause_6 ?_
  refine j_isub X dX5_setCause_7 ?_
  refine j_iconst X (v := (nI 4)) (by decide) dX5_setCause_8 ?_
  refine j_imul X dX5_setCause_9 ?_
  refine j_iload_n X 3 dX5_setCause_10 rfl rfl ?_
  refine j_iadd X dX5_setCause_11 ?_
  obtain ⟨x5_1, ex5_1, hf⟩ := f_lt hf
  refine j_top ex5_1 ?_
  refine j_istore (lv' := [(0, .ref (ad 50)), (1, .int x1), (2, .int x2), (3, .int x3), (4, .int x4), (5, .int x5_1)]) X dX5_setCause_12 (by decide) rfl ?_
  refine j_iload X 5 dX5_setCause_14 rfl ?_
  refine j_if_lt (tgt := 38) X dX5_setCause_16 (by decide) (fun c => ?_) (fun c => ?_)
  · replace hf := f_t c hf
    exact j_vret X Y (f_s hf) dX5_setCause_38
  replace hf := f_f c hf
  refine j_iload X 5 dX5_setCause_19 rfl ?_
  refine j_aload_n X 0 dX5_setCause_21 rfl rfl ?_
  refine j_get (ref := "ProxyVersions$State") (index := 34) (v := .ref (ad 55)) X oS0 inX5_setCause_X5 rfl 11 (by decide) (List.mem_of_getElem? (i := 1) rfl) rfl rfl dX5_setCause_22 ?_
  refine j_alen X 0 rfl i55 dX5_setCause_25 ?_
  refine j_icmp_ge (tgt := 38) X dX5_setCause_26 (by decide) (fun c => ?_) (fun c => ?_)
  · replace hf := f_t c hf
    exact j_vret X Y (f_s hf) dX5_setCause_38
  replace hf := f_f c hf
  refine j_aload_n X 0 dX5_setCause_29 rfl rfl ?_
  refine j_get (ref := "ProxyVersions$State") (index := 34) (v := .ref (ad 55)) X oS0 inX5_setCause_X5 rfl 11 (by decide) (List.mem_of_getElem? (i := 1) rfl) rfl rfl dX5_setCause_30 ?_
  refine j_iload X 5 dX5_setCause_33 rfl ?_
  refine j_iload X 4 dX5_setCause_35 rfl ?_
  obtain ⟨hi2, hf⟩ := f_c hf
  obtain ⟨w3, ew3, hf⟩ := f_lt hf
  refine j_iast X 0 rfl i55 hi2 dX5_setCause_37 ew3 ?_
  exact j_vret X Y (f_s hf) dX5_setCause_38
abbrev rmX5_setWrittenOf : Room := { frames := 0, cells := 0, slots := 0, locals := 0 }
theorem inX5_setWrittenOf_X5 : ∀ w ∈ wsX50, w ∈ wsX5_setWrittenOf := fun _ h => List.mem_cons_of_mem _ (List.mem_append_right _ h)
set_option maxRecDepth 100000 in
set_option maxHeartbeats 4000000 in
theorem c_X5_setWrittenOf (hI : Inj 490 ad) {x1 : Int32} {x2 : Int32} {w : Wd} {out : Wd} (hf : m_X5_setWrittenOf x1 x2 w = some out) : Met l yX5_setWrittenOf wsX5_setWrittenOf rmX5_setWrittenOf (va_Pc [.ref (ad 50), .int x1, .int x2] (PW D (tC cI cL cS) 490 ad (cellC cI cL cS ad) w)) (QWv D 490 ad (cellC cI cL cS ad) out) 0 0 (AW 490 ad) := by
  refine mk_met (maxL := 3) (ret := none) RX5 hI (by decide) rfl rfl (Nat.le_of_ble_eq_true rfl) rfl rfl (fun p e s m args below meth c X Y => ?_)
  unfold m_X5_setWrittenOf at hf
  refine j_iload_n X 1 dX5_setWrittenOf_0 rfl rfl ?_
  refine j_if_lt (tgt := 20) X dX5_setWrittenOf_1 (by decide) (fun c => ?_) (fun c => ?_)
  · replace hf := f_t c hf
    exact j_vret X Y (f_s hf) dX5_setWrittenOf_20
  replace hf := f_f c hf
  refine j_iload_n X 1 dX5_setWrittenOf_4 rfl rfl ?_
  refine j_aload_n X 0 dX5_setWrittenOf_5 rfl rfl ?_
  refine j_get (ref := "ProxyVersions$State") (index := 28) (v := .ref (ad 53)) X oS0 inX5_setWrittenOf_X5 rfl 9 (by decide) (List.mem_of_getElem? (i := 1) rfl) rfl rfl dX5_setWrittenOf_6 ?_
  refine j_alen X 0 rfl i53 dX5_setWrittenOf_9 ?_
  refine j_icmp_ge (tgt := 20) X dX5_setWrittenOf_10 (by decide) (fun c => ?_) (fun c => ?_)
  · replace hf := f_t c hf
    exact j_vret X Y (f_s hf) dX5_setWrittenOf_20
  replace hf := f_f c hf
  refine j_aload_n X 0 dX5_setWrittenOf_13 rfl rfl ?_
  refine j_get (ref := "ProxyVersions$State") (index := 28) (v := .ref (ad 53)) X oS0 inX5_setWrittenOf_X5 rfl 9 (by decide) (List.mem_of_getElem? (i := 1) rfl) rfl rfl dX5_setWrittenOf_14 ?_
  refine j_iload_n X 1 dX5_setWrittenOf_17 rfl rfl ?_
  refine j_iload_n X 2 dX5_setWrittenOf_18 rfl rfl ?_
  obtain ⟨hi1, hf⟩ := f_c hf
  obtain ⟨w2, ew2, hf⟩ := f_lt hf
  refine j_iast X 0 rfl i53 hi1 dX5_setWrittenOf_19 ew2 ?_
  exact j_vret X Y (f_s hf) dX5_setWrittenOf_20
abbrev rmX7_updateOf : Room := { frames := 0, cells := 0, slots := 0, locals := 0 }
set_option maxRecDepth 100000 in
set_option maxHeartbeats 4000000 in
theorem c_X7_updateOf (hI : Inj 490 ad) {x0 : Int32} {x1 : Int32} {w : Wd} {out : Int32} (hf : m_X7_updateOf x0 x1 = some out) : Met l yX7_updateOf wsX7_updateOf rmX7_updateOf (va_Pc [.int x0, .int x1] (PW D (tC cI cL cS) 490 ad (cellC cI cL cS ad) w)) (QWi D 490 ad (cellC cI cL cS ad) out w) 0 0 (AW 490 ad) := by
  refine mk_met (maxL := 2) (ret := (some .int)) RX7 hI (by decide) rfl rfl (Nat.le_of_ble_eq_true rfl) rfl rfl (fun p e s m args below meth c X Y => ?_)
  unfold m_X7_updateOf at hf
  refine j_bipush X (v := (nI 100)) (by decide) dX7_updateOf_0 ?_
  refine j_iload_n X 0 dX7_updateOf_2 rfl rfl ?_
  refine j_imul X dX7_updateOf_3 ?_
  refine j_iload_n X 1 dX7_updateOf_4 rfl rfl ?_
  refine j_iadd X dX7_updateOf_5 ?_
  exact j_iret X Y (f_s hf) rfl dX7_updateOf_6
abbrev rmX7_originOf : Room := { frames := 0, cells := 0, slots := 0, locals := 0 }
set_option maxRecDepth 100000 in
set_option maxHeartbeats 4000000 in
theorem c_X7_originOf (hI : Inj 490 ad) {x0 : Int32} {w : Wd} {out : Int32} (hf : m_X7_originOf x0 = some out) : Met l yX7_originOf wsX7_originOf rmX7_originOf (va_Pc [.int x0] (PW D (tC cI cL cS) 490 ad (cellC cI cL cS ad) w)) (QWi D 490 ad (cellC cI cL cS ad) out w) 0 0 (AW 490 ad) := by
  refine mk_met (maxL := 1) (ret := (some .int)) RX7 hI (by decide) rfl rfl (Nat.le_of_ble_eq_true rfl) rfl rfl (fun p e s m args below meth c X Y => ?_)
  unfold m_X7_originOf at hf
  refine j_iload_n X 0 dX7_originOf_0 rfl rfl ?_
  refine j_bipush X (v := (nI 100)) (by decide) dX7_originOf_1 ?_
  refine j_idiv X (by decide) dX7_originOf_3 ?_
  exact j_iret X Y (f_s hf) rfl dX7_originOf_4
abbrev rmX7_versionOf : Room := { frames := 0, cells := 0, slots := 0, locals := 0 }
set_option maxRecDepth 100000 in
set_option maxHeartbeats 4000000 in
theorem c_X7_versionOf (hI : Inj 490 ad) {x0 : Int32} {w : Wd} {out : Int32} (hf : m_X7_versionOf x0 = some out) : Met l yX7_versionOf wsX7_versionOf rmX7_versionOf (va_Pc [.int x0] (PW D (tC cI cL cS) 490 ad (cellC cI cL cS ad) w)) (QWi D 490 ad (cellC cI cL cS ad) out w) 0 0 (AW 490 ad) := by
  refine mk_met (maxL := 1) (ret := (some .int)) RX7 hI (by decide) rfl rfl (Nat.le_of_ble_eq_true rfl) rfl rfl (fun p e s m args below meth c X Y => ?_)
  unfold m_X7_versionOf at hf
  refine j_iload_n X 0 dX7_versionOf_0 rfl rfl ?_
  refine j_bipush X (v := (nI 100)) (by decide) dX7_versionOf_1 ?_
  refine j_irem X (by decide) dX7_versionOf_3 ?_
  exact j_iret X Y (f_s hf) rfl dX7_versionOf_4
abbrev rmX6_with : Room := { frames := 0, cells := 0, slots := 0, locals := 0 }
set_option maxRecDepth 100000 in
set_option maxHeartbeats 4000000 in
theorem c_X6_with (hI : Inj 490 ad) {x0 : Int32} {x1 : Int32} {w : Wd} {out : Int32} (hf : m_X6_with x0 x1 = some out) : Met l yX6_with wsX6_with rmX6_with (va_Pc [.int x0, .int x1] (PW D (tC cI cL cS) 490 ad (cellC cI cL cS ad) w)) (QWi D 490 ad (cellC cI cL cS ad) out w) 0 0 (AW 490 ad) := by
  refine mk_met (maxL := 2) (ret := (some .int)) RX6 hI (by decide) rfl rfl (Nat.le_of_ble_eq_true rfl) rfl rfl (fun p e s m args below meth c X Y => ?_)
  unfold m_X6_with at hf
  refine j_iload_n X 1 dX6_with_0 rfl rfl ?_
  refine j_iconst X (v := (nI 1)) (by decide) dX6_with_1 ?_
  refine j_icmp_lt (tgt := 21) X dX6_with_2 (by decide) (fun c => ?_) (fun c => ?_)
  · replace hf := f_t c hf
    refine j_iload_n X 0 dX6_with_21 rfl rfl ?_
    exact j_iret X Y (f_s hf) rfl dX6_with_22
  replace hf := f_f c hf
  refine j_iload_n X 1 dX6_with_5 rfl rfl ?_
  refine j_bipush X (v := (nI 24)) (by decide) dX6_with_6 ?_
  refine j_icmp_gt (tgt := 21) X dX6_with_8 (by decide) (fun c => ?_) (fun c => ?_)
  · replace hf := f_t c hf
    refine j_iload_n X 0 dX6_with_21 rfl rfl ?_
    exact j_iret X Y (f_s hf) rfl dX6_with_22
  replace hf := f_f c hf
  refine j_iload_n X 0 dX6_with_11 rfl rfl ?_
  refine j_iconst X (v := (nI 1)) (by decide) dX6_with_12 ?_
  refine j_iload_n X 1 dX6_with_13 rfl rfl ?_
  refine j_iconst X (v := (nI 1)) (by decide) dX6_with_14 ?_
  refine j_isub X dX6_with_15 ?_
  refine j_ishl X dX6_with_16 ?_
  refine j_ior X dX6_with_17 ?_
  refine j_goto (tgt := 22) X dX6_with_18 (by decide) ?_
  exact j_iret X Y (f_s hf) rfl dX6_with_22
abbrev rmJ6_bitCount_0f7a4 : Room := { frames := 0, cells := 0, slots := 0, locals := 0 }
set_option maxRecDepth 100000 in
set_option maxHeartbeats 4000000 in
theorem c_J6_bitCount_0f7a4 (hI : Inj 490 ad) {x0 : Int32} {w : Wd} {out : Int32} (hf : m_J6_bitCount_0f7a4 x0 = some out) : Met l yJ6_bitCount_0f7a4 wsJ6_bitCount_0f7a4 rmJ6_bitCount_0f7a4 (va_Pc [.int x0] (PW D (tC cI cL cS) 490 ad (cellC cI cL cS ad) w)) (QWi D 490 ad (cellC cI cL cS ad) out w) 0 0 (AW 490 ad) := by
  refine mk_metF (maxL := 1) (ret := (some .int)) RJ6 hI (by decide +kernel) rfl rfl (Nat.le_of_ble_eq_true rfl) rfl rfl (fun p e s m args below meth c X Y => ?_)
  unfold m_J6_bitCount_0f7a4 at hf
  refine j_iload_n X 0 dJ6_bitCount_0f7a4_0 rfl rfl ?_
  refine j_iload_n X 0 dJ6_bitCount_0f7a4_1 rfl rfl ?_
  refine j_iconst X (v := (nI 1)) (by decide) dJ6_bitCount_0f7a4_2 ?_
  refine j_iushr X rfl dJ6_bitCount_0f7a4_3 ?_
  refine j_ldcw X (v := (1431655765 : Int32)) (List.mem_of_getElem? (i := 1) rfl) dJ6_bitCount_0f7a4_4 ?_
  refine j_iand X dJ6_bitCount_0f7a4_7 ?_
  refine j_isub X dJ6_bitCount_0f7a4_8 ?_
  obtain ⟨x0_1, ex0_1, hf⟩ := f_lt hf
  refine j_top ex0_1 ?_
  refine j_istore_n (lv' := [(0, .int x0_1)]) X dJ6_bitCount_0f7a4_9 rfl (by decide) rfl ?_
  refine j_iload_n X 0 dJ6_bitCount_0f7a4_10 rfl rfl ?_
  refine j_ldcw X (v := (858993459 : Int32)) (List.mem_of_getElem? (i := 2) rfl) dJ6_bitCount_0f7a4_11 ?_
  refine j_iand X dJ6_bitCount_0f7a4_14 ?_
  refine j_iload_n X 0 dJ6_bitCount_0f7a4_15 rfl rfl ?_
  refine j_iconst X (v := (nI 2)) (by decide) dJ6_bitCount_0f7a4_16 ?_
  refine j_iushr X rfl dJ6_bitCount_0f7a4_17 ?_
  refine j_ldcw X (v := (858993459 : Int32)) (List.mem_of_getElem? (i := 2) rfl) dJ6_bitCount_0f7a4_18 ?_
  refine j_iand X dJ6_bitCount_0f7a4_21 ?_
  refine j_iadd X dJ6_bitCount_0f7a4_22 ?_
  obtain ⟨x0_2, ex0_2, hf⟩ := f_lt hf
  refine j_top ex0_2 ?_
  refine j_istore_n (lv' := [(0, .int x0_2)]) X dJ6_bitCount_0f7a4_23 rfl (by decide) rfl ?_
  refine j_iload_n X 0 dJ6_bitCount_0f7a4_24 rfl rfl ?_
  refine j_iload_n X 0 dJ6_bitCount_0f7a4_25 rfl rfl ?_
  refine j_iconst X (v := (nI 4)) (by decide) dJ6_bitCount_0f7a4_26 ?_
  refine j_iushr X rfl dJ6_bitCount_0f7a4_27 ?_
  refine j_iadd X dJ6_bitCount_0f7a4_28 ?_
  refine j_ldcw X (v := (252645135 : Int32)) (List.mem_of_getElem? (i := 3) rfl) dJ6_bitCount_0f7a4_29 ?_
  refine j_iand X dJ6_bitCount_0f7a4_32 ?_
  obtain ⟨x0_3, ex0_3, hf⟩ := f_lt hf
  refine j_top ex0_3 ?_
  refine j_istore_n (lv' := [(0, .int x0_3)]) X dJ6_bitCount_0f7a4_33 rfl (by decide) rfl ?_
  refine j_iload_n X 0 dJ6_bitCount_0f7a4_34 rfl rfl ?_
  refine j_iload_n X 0 dJ6_bitCount_0f7a4_35 rfl rfl ?_
  refine j_bipush X (v := (nI 8)) (by decide) dJ6_bitCount_0f7a4_36 ?_
  refine j_iushr X rfl dJ6_bitCount_0f7a4_38 ?_
  refine j_iadd X dJ6_bitCount_0f7a4_39 ?_
  obtain ⟨x0_4, ex0_4, hf⟩ := f_lt hf
  refine j_top ex0_4 ?_
  refine j_istore_n (lv' := [(0, .int x0_4)]) X dJ6_bitCount_0f7a4_40 rfl (by decide) rfl ?_
  refine j_iload_n X 0 dJ6_bitCount_0f7a4_41 rfl rfl ?_
  refine j_iload_n X 0 dJ6_bitCount_0f7a4_42 rfl rfl ?_
  refine j_bipush X (v := (nI 16)) (by decide) dJ6_bitCount_0f7a4_43 ?_
  refine j_iushr X rfl dJ6_bitCount_0f7a4_45 ?_
  refine j_iadd X dJ6_bitCount_0f7a4_46 ?_
  obtain ⟨x0_5, ex0_5, hf⟩ := f_lt hf
  refine j_top ex0_5 ?_
  refine j_istore_n (lv' := [(0, .int x0_5)]) X dJ6_bitCount_0f7a4_47 rfl (by decide) rfl ?_
  refine j_iload_n X 0 dJ6_bitCount_0f7a4_48 rfl rfl ?_
  refine j_bipush X (v := (nI 63)) (by decide) dJ6_bitCount_0f7a4_49 ?_
  refine j_iand X dJ6_bitCount_0f7a4_51 ?_
  exact j_iret X Y (f_s hf) rfl dJ6_bitCount_0f7a4_52
abbrev rmX6_rangesIn : Room := { frames := 1, cells := 0, slots := 0, locals := 20 }
set_option maxRecDepth 100000 in
set_option maxHeartbeats 4000000 in
theorem c_X6_rangesIn (hI : Inj 490 ad) {x0 : Int32} {w : Wd} {out : Int32} (hf : m_X6_rangesIn x0 = some out) : Met l yX6_rangesIn wsX6_rangesIn rmX6_rangesIn (va_Pc [.int x0] (PW D (tC cI cL cS) 490 ad (cellC cI cL cS ad) w)) (QWi D 490 ad (cellC cI cL cS ad) out w) 0 0 (AW 490 ad) := by
  refine mk_met (maxL := 1) (ret := (some .int)) RX6 hI (by decide) rfl rfl (Nat.le_of_ble_eq_true rfl) rfl rfl (fun p e s m args below meth c X Y => ?_)
  unfold m_X6_rangesIn at hf
  refine j_iload_n X 0 dX6_rangesIn_0 rfl rfl ?_
  refine j_iconst X (v := (-1 : Int32)) (by decide) dX6_rangesIn_1 ?_
  refine j_ixor X dX6_rangesIn_2 ?_
  refine j_iload_n X 0 dX6_rangesIn_3 rfl rfl ?_
  refine j_iconst X (v := (nI 1)) (by decide) dX6_rangesIn_4 ?_
  refine j_ishr X dX6_rangesIn_5 ?_
  refine j_iand X dX6_rangesIn_6 ?_
  obtain ⟨o1, ho1, hf⟩ := f_bd hf
  refine j_callSi X [.int ((x0 ^^^ (-1 : Int32)) &&& (x0 >>> ((nI 1) &&& 31)))] (c_J6_bitCount_0f7a4 X.2.2.2.2.2.2.2 ho1) (va_cwS 1 X.2.2.2.2.1 gX6_rangesIn_J6_bitCount_0f7a4 rfl rfl rfl (by decide +kernel) ⟨Nat.le_of_ble_eq_true rfl, Nat.le_of_ble_eq_true rfl⟩) rfl rfl (Nat.le_of_ble_eq_true rfl) dX6_rangesIn_7 ?_
  exact j_iret X Y (f_s hf) rfl dX6_rangesIn_10
abbrev rmX5_rangesWith : Room := { frames := 2, cells := 0, slots := 0, locals := 40 }
set_option maxRecDepth 100000 in
set_option maxHeartbeats 4000000 in
theorem t_X5_rangesWith_j40 (X : CX p rmX5_rangesWith s m args c cX5_rangesWith 7 RX5 wsX5_rangesWith D (tC cI cL cS) 490 ad) (Y : RX meth (some .int)) {x1 : Int32} {x2 : Int32} {x3 : Int32} {x5 : Int32} {s0 : Int32} {s1 : Int32} {w : Wd} {kc : Int32 → Int32 → Option (Int32)} {out : Int32} (hf : m_X5_rangesWith_j40 x1 x2 x3 x5 s0 s1 w kc = some out) (hk_kc : ∀ (y4 : Int32) (y5 : Int32), kc y4 y5 = some out → WJ p l e rmX5_rangesWith s m args below meth c (MQ below (QWi D 490 ad (cellC cI cL cS ad) out w) args s 0 0 (AW 490 ad)) 7 D 490 ad (cellC cI cL cS ad) w 6 [(0, .ref (ad 50)), (1, .int x1), (2, .int x2), (3, .int x3), (4, .int y4), (5, .int y5)] []) : WJ p l e rmX5_rangesWith s m args below meth c (MQ below (QWi D 490 ad (cellC cI cL cS ad) out w) args s 0 0 (AW 490 ad)) 7 D 490 ad (cellC cI cL cS ad) w 40 [(0, .ref (ad 50)), (1, .int x1), (2, .int x2), (3, .int x3), (5, .int x5)] [.int s1, .int s0] := by
  unfold m_X5_rangesWith_j40 at hf
  obtain ⟨o1, ho1, hf⟩ := f_bd hf
  refine j_callSi X [.int s1] (c_X6_rangesIn X.2.2.2.2.2.2.2 ho1) (va_cwS 1 X.2.2.2.2.1 gX5_rangesWith_X6_rangesIn rfl rfl rfl (by decide +kernel) ⟨Nat.le_of_ble_eq_true rfl, Nat.le_of_ble_eq_true rfl⟩) rfl rfl (Nat.le_of_ble_eq_true rfl) dX5_rangesWith_40 ?_
  refine j_iadd X dX5_rangesWith_43 ?_
  obtain ⟨x4_2, ex4_2, hf⟩ := f_lt hf
  refine j_top ex4_2 ?_
  refine j_istore (lv' := [(0, .ref (ad 50)), (1, .int x1), (2, .int x2), (3, .int x3), (4, .int x4_2), (5, .int x5)]) X dX5_rangesWith_44 (by decide) rfl ?_
  refine j_iinc (v := (x5 + (nI 1))) (lv' := [(0, .ref (ad 50)), (1, .int x1), (2, .int x2), (3, .int x3), (4, .int x4_2), (5, .int (x5 + (nI 1)))]) X 5 dX5_rangesWith_46 rfl rfl (by decide) rfl ?_
  refine j_goto (tgt := 6) X dX5_rangesWith_49 (by decide) ?_
  exact hk_kc _ _ hf
set_option maxRecDepth 100000 in
set_option maxHeartbeats 4000000 in
theorem t_X5_rangesWith_L6 (X : CX p rmX5_rangesWith s m args c cX5_rangesWith 7 RX5 wsX5_rangesWith D (tC cI cL cS) 490 ad) (Y : RX meth (some .int)) {x1 : Int32} {x2 : Int32} {x3 : Int32} {w : Wd} {out : Int32} : ∀ (n : Nat) (x4 : Int32) (x5 : Int32), m_X5_rangesWith_L6 x1 x2 x3 w n x4 x5 = some out → WJ p l e rmX5_rangesWith s m args below meth c (MQ below (QWi D 490 ad (cellC cI cL cS ad) out w) args s 0 0 (AW 490 ad)) 7 D 490 ad (cellC cI cL cS ad) w 6 [(0, .ref (ad 50)), (1, .int x1), (2, .int x2), (3, .int x3), (4, .int x4), (5, .int x5)] [] := by
  intro n
  induction n with
  | zero => intro x4 x5 hf; exact f_n hf
  | succ n ih =>
    intro x4 x5 hf
    rw [m_X5_rangesWith_L6] at hf
    refine j_iload X 5 dX5_rangesWith_6 rfl ?_
    refine j_iconst X (v := (nI 4)) (by decide) dX5_rangesWith_8 ?_
    refine j_icmp_ge (tgt := 52) X dX5_rangesWith_9 (by decide) (fun c => ?_) (fun c => ?_)
    · replace hf := f_t c hf
      refine j_iload X 4 dX5_rangesWith_52 rfl ?_
      exact j_iret X Y (f_s hf) rfl dX5_rangesWith_54
    replace hf := f_f c hf
    refine j_aload_n X 0 dX5_rangesWith_12 rfl rfl ?_
    refine j_iload_n X 1 dX5_rangesWith_13 rfl rfl ?_
    refine j_iload X 5 dX5_rangesWith_14 rfl ?_
    obtain ⟨o1, ho1, hf⟩ := f_bd hf
    refine j_callVi X oS0 rfl rfl [.int x1, .int x5] (c_X5_knownOf X.2.2.2.2.2.2.2 ho1) (cwV 2 X.2.2.2.2.1 gX5_rangesWith_X5_knownOf rfl rfl rfl (by decide +kernel) ⟨Nat.le_of_ble_eq_true rfl, Nat.le_of_ble_eq_true rfl⟩) rfl rfl (Nat.le_of_ble_eq_true rfl) dX5_rangesWith_16 ?_
    refine j_istore (lv' := [(0, .ref (ad 50)), (1, .int x1), (2, .int x2), (3, .int x3), (4, .int x4), (5, .int x5), (6, .int o1)]) X dX5_rangesWith_19 (by decide) rfl ?_
    refine j_iload X 4 dX5_rangesWith_21 rfl ?_
    refine j_iload X 5 dX5_rangesWith_23 rfl ?_
    refine j_iload_n X 2 dX5_rangesWith_25 rfl rfl ?_
    refine j_icmp_ne (tgt := 38) X dX5_rangesWith_26 (by decide) (fun c => ?_) (fun c => ?_)
    · replace hf := f_t c hf
      refine j_iload X 6 dX5_rangesWith_38 rfl ?_
      refine j_sub [0, 1, 2, 3, 5] rfl ?_
      exact t_X5_rangesWith_j40 X Y hf ih
    replace hf := f_fn c hf
    refine j_iload X 6 dX5_rangesWith_29 rfl ?_
    refine j_iload_n X 3 dX5_rangesWith_31 rfl rfl ?_
    obtain ⟨o2, ho2, hf⟩ := f_bd hf
    refine j_callSi X [.int o1, .int x3] (c_X6_with X.2.2.2.2.2.2.2 ho2) (va_cwS 2 X.2.2.2.2.1 gX5_rangesWith_X6_with rfl rfl rfl (by decide +kernel) ⟨Nat.le_of_ble_eq_true rfl, Nat.le_of_ble_eq_true rfl⟩) rfl rfl (Nat.le_of_ble_eq_true rfl) dX5_rangesWith_32 ?_
    refine j_goto (tgt := 40) X dX5_rangesWith_35 (by decide) ?_
    refine j_sub [0, 1, 2, 3, 5] rfl ?_
    exact t_X5_rangesWith_j40 X Y hf ih
set_option maxRecDepth 100000 in
set_option maxHeartbeats 4000000 in
theorem c_X5_rangesWith (hI : Inj 490 ad) {x1 : Int32} {x2 : Int32} {x3 : Int32} {w : Wd} {out : Int32} (hf : m_X5_rangesWith x1 x2 x3 w = some out) : Met l yX5_rangesWith wsX5_rangesWith rmX5_rangesWith (va_Pc [.ref (ad 50), .int x1, .int x2, .int x3] (PW D (tC cI cL cS) 490 ad (cellC cI cL cS ad) w)) (QWi D 490 ad (cellC cI cL cS ad) out w) 0 0 (AW 490 ad) := by
  refine mk_met (maxL := 7) (ret := (some .int)) RX5 hI (by decide) rfl rfl (Nat.le_of_ble_eq_true rfl) rfl rfl (fun p e s m args below meth c X Y => ?_)
  unfold m_X5_rangesWith at hf
  refine j_iconst X (v := (nI 0)) (by decide) dX5_rangesWith_0 ?_
  refine j_istore (lv' := [(0, .ref (ad 50)), (1, .int x1), (2, .int x2), (3, .int x3), (4, .int (nI 0))]) X dX5_rangesWith_1 (by decide) rfl ?_
  refine j_iconst X (v := (nI 0)) (by decide) dX5_rangesWith_3 ?_
  refine j_istore (lv' := [(0, .ref (ad 50)), (1, .int x1), (2, .int x2), (3, .int x3), (4, .int (nI 0)), (5, .int (nI 0))]) X dX5_rangesWith_4 (by decide) rfl ?_
  refine t_X5_rangesWith_L6 X Y _ _ _ hf
abbrev rmX5_addKnown : Room := { frames := 1, cells := 0, slots := 0, locals := 21 }
theorem inX5_addKnown_X5 : ∀ w ∈ wsX50, w ∈ wsX5_addKnown := fun _ h => List.mem_cons_of_mem _ (List.mem_append_right _ h)
set_option maxRecDepth 100000 in
set_option maxHeartbeats 4000000 in
theorem c_X5_addKnown (hI : Inj 490 ad) {x1 : Int32} {x2 : Int32} {x3 : Int32} {w : Wd} {out : Wd} (hf : m_X5_addKnown x1 x2 x3 w = some out) : Met l yX5_addKnown wsX5_addKnown rmX5_addKnown (va_Pc [.ref (ad 50), .int x1, .int x2, .int x3] (PW D (tC cI cL cS) 490 ad (cellC cI cL cS ad) w)) (QWv D 490 ad (cellC cI cL cS ad) out) 0 0 (AW 490 ad) := by
  refine mk_met (maxL := 5) (ret := none) RX5 hI (by decide) rfl rfl (Nat.le_of_ble_eq_true rfl) rfl rfl (fun p e s m args below meth c X Y => ?_)
  unfold m_X5_addKnown at hf
  refine j_iload_n X 1 dX5_addKnown_0 rfl rfl ?_
  refine j_iconst X (v := (nI 4)) (by decide) dX5_addKnown_1 ?_
  refine j_imul X dX5_addKnown_2 ?_
  refine j_iload_n X 2 dX5_addKnown_3 rfl rfl ?_
  refine j_iadd X dX5_addKnown_4 ?_
  obtain ⟨x4_1, ex4_1, hf⟩ := f_lt hf
  refine j_top ex4_1 ?_
  refine j_istore (lv' := [(0, .ref (ad 50)), (1, .int x1), (2, .int x2), (3, .int x3), (4, .int x4_1)]) X dX5_addKnown_5 (by decide) rfl ?_
  refine j_iload X 4 dX5_addKnown_7 rfl ?_
  refine j_if_lt (tgt := 40) X dX5_addKnown_9 (by decide) (fun c => ?_) (fun c => ?_)
  · replace hf := f_t c hf
    exact j_vret X Y (f_s hf) dX5_addKnown_40
  replace hf := f_f c hf
  refine j_iload X 4 dX5_addKnown_12 rfl ?_
  refine j_aload_n X 0 dX5_addKnown_14 rfl rfl ?_
  refine j_get (ref := "ProxyVersions$State") (index := 31) (v := .ref (ad 54)) X oS0 inX5_addKnown_X5 rfl 10 (by decide) (List.mem_of_getElem? (i := 1) rfl) rfl rfl dX5_addKnown_15 ?_
  refine j_alen X 0 rfl i54 dX5_addKnown_18 ?_
  refine j_icmp_ge (tgt := 40) X dX5_addKnown_19 (by decide) (fun c => ?_) (fun c => ?_)
  · replace hf := f_t c hf
    exact j_vret X Y (f_s hf) dX5_addKnown_40
  replace hf := f_f c hf
  refine j_aload_n X 0 dX5_addKnown_22 rfl rfl ?_
  refine j_get (ref := "ProxyVersions$State") (index := 31) (v := .ref (ad 54)) X oS0 inX5_addKnown_X5 rfl 10 (by decide) (List.mem_of_getElem? (i := 1) rfl) rfl rfl dX5_addKnown_23 ?_
  refine j_iload X 4 dX5_addKnown_26 rfl ?_
  refine j_aload_n X 0 dX5_addKnown_28 rfl rfl ?_
  refine j_get (ref := "ProxyVersions$State") (index := 31) (v := .ref (ad 54)) X oS0 inX5_addKnown_X5 rfl 10 (by decide) (List.mem_of_getElem? (i := 1) rfl) rfl rfl dX5_addKnown_29 ?_
  refine j_iload X 4 dX5_addKnown_32 rfl ?_
  obtain ⟨hi2, hf⟩ := f_c hf
  refine j_iald X 0 rfl i54 hi2 dX5_addKnown_34 ?_
  refine j_iload_n X 3 dX5_addKnown_35 rfl rfl ?_
  obtain ⟨o3, ho3, hf⟩ := f_bd hf
  refine j_callSi X [.int (w 54 x4_1.toNatClampNeg), .int x3] (c_X6_with X.2.2.2.2.2.2.2 ho3) (va_cwS 2 X.2.2.2.2.1 gX5_addKnown_X6_with rfl rfl rfl (by decide +kernel) ⟨Nat.le_of_ble_eq_true rfl, Nat.le_of_ble_eq_true rfl⟩) rfl rfl (Nat.le_of_ble_eq_true rfl) dX5_addKnown_36 ?_
  obtain ⟨hi4, hf⟩ := f_c hf
  obtain ⟨w5, ew5, hf⟩ := f_lt hf
  refine j_iast X 0 rfl i54 hi4 dX5_addKnown_39 ew5 ?_
  exact j_vret X Y (f_s hf) dX5_addKnown_40
abbrev rmX5_contentsOf : Room := { frames := 1, cells := 0, slots := 0, locals := 21 }
theorem inX5_contentsOf_X5 : ∀ w ∈ wsX50, w ∈ wsX5_contentsOf := fun _ h => List.mem_cons_of_mem _ (List.mem_append_right _ h)
set_option maxRecDepth 100000 in
set_option maxHeartbeats 4000000 in
theorem t_X5_contentsOf_j26 (X : CX p rmX5_contentsOf s m args c cX5_contentsOf 2 RX5 wsX5_contentsOf D (tC cI cL cS) 490 ad) (Y : RX meth (some (.object "ProxyVersions$Line"))) {w : Wd} {out : Nat} (hf : m_X5_contentsOf_j26 w = some out) : WJ p l e rmX5_contentsOf s m args below meth c (MQ below (QWr D 490 ad (cellC cI cL cS ad) out w) args s 0 0 (AW 490 ad)) 2 D 490 ad (cellC cI cL cS ad) w 26 [(0, .ref (ad 50))] [] := by
  unfold m_X5_contentsOf_j26 at hf
  refine j_aload_n X 0 dX5_contentsOf_26 rfl rfl ?_
  refine j_get (ref := "ProxyVersions$State") (index := 52) (v := .ref (ad 48)) X oS0 inX5_contentsOf_X5 rfl 15 (by decide) (List.mem_of_getElem? (i := 2) rfl) rfl rfl dX5_contentsOf_27 ?_
  exact j_aret X Y (f_s hf) rfl dX5_contentsOf_30
set_option maxRecDepth 100000 in
set_option maxHeartbeats 4000000 in
theorem c_X5_contentsOf (hI : Inj 490 ad) {x1 : Int32} {w : Wd} {out : Nat} (hf : m_X5_contentsOf x1 w = some out) : Met l yX5_contentsOf wsX5_contentsOf rmX5_contentsOf (va_Pc [.ref (ad 50), .int x1] (PW D (tC cI cL cS) 490 ad (cellC cI cL cS ad) w)) (QWr D 490 ad (cellC cI cL cS ad) out w) 0 0 (AW 490 ad) := by
  refine mk_met (maxL := 2) (ret := (some (.object "ProxyVersions$Line"))) RX5 hI (by decide) rfl rfl (Nat.le_of_ble_eq_true rfl) rfl rfl (fun p e s m args below meth c X Y => ?_)
  unfold m_X5_contentsOf at hf
  refine j_aload_n X 0 dX5_contentsOf_0 rfl rfl ?_
  refine j_iload_n X 1 dX5_contentsOf_1 rfl rfl ?_
  obtain ⟨o1, ho1, hf⟩ := f_bd hf
  refine j_callVi X oS0 rfl rfl [.int x1] (c_X5_hasProxy X.2.2.2.2.2.2.2 ho1) (cwV 1 X.2.2.2.2.1 gX5_contentsOf_X5_hasProxy rfl rfl rfl (by decide +kernel) ⟨Nat.le_of_ble_eq_true rfl, Nat.le_of_ble_eq_true rfl⟩) rfl rfl (Nat.le_of_ble_eq_true rfl) dX5_contentsOf_2 ?_
  refine j_if_eq (tgt := 26) X dX5_contentsOf_5 (by decide) (fun c => ?_) (fun c => ?_)
  · replace hf := f_t c hf
    refine j_sub [0] rfl ?_
    exact t_X5_contentsOf_j26 X Y hf
  replace hf := f_f c hf
  refine j_iload_n X 1 dX5_contentsOf_8 rfl rfl ?_
  refine j_aload_n X 0 dX5_contentsOf_9 rfl rfl ?_
  refine j_get (ref := "ProxyVersions$State") (index := 39) (v := .ref (ad 56)) X oS0 inX5_contentsOf_X5 rfl 12 (by decide) (List.mem_of_getElem? (i := 1) rfl) rfl rfl dX5_contentsOf_10 ?_
  refine j_alenQ X 1 rfl q56 dX5_contentsOf_13 ?_
  refine j_icmp_ge (tgt := 26) X dX5_contentsOf_14 (by decide) (fun c => ?_) (fun c => ?_)
  · replace hf := f_t c hf
    refine j_sub [0] rfl ?_
    exact t_X5_contentsOf_j26 X Y hf
  replace hf := f_f c hf
  refine j_aload_n X 0 dX5_contentsOf_17 rfl rfl ?_
  refine j_get (ref := "ProxyVersions$State") (index := 39) (v := .ref (ad 56)) X oS0 inX5_contentsOf_X5 rfl 12 (by decide) (List.mem_of_getElem? (i := 1) rfl) rfl rfl dX5_contentsOf_18 ?_
  refine j_iload_n X 1 dX5_contentsOf_21 rfl rfl ?_
  obtain ⟨hi2, hf⟩ := f_c hf
  refine j_aald X 1 rfl q56 hi2 dX5_contentsOf_22 ?_
  refine j_goto (tgt := 30) X dX5_contentsOf_23 (by decide) ?_
  exact j_aret X Y (f_s hf) rfl dX5_contentsOf_30
abbrev rmX3_firstServed : Room := { frames := 1, cells := 0, slots := 0, locals := 21 }
theorem inX3_firstServed_X3 : ∀ w ∈ wsX30, w ∈ wsX3_firstServed := fun _ h => List.mem_cons_of_mem _ (List.mem_append_left _ (List.mem_append_left _ (List.mem_append_right _ h)))
set_option maxRecDepth 100000 in
set_option maxHeartbeats 4000000 in
theorem t_X3_firstServed_L2 (X : CX p rmX3_firstServed s m args c cX3_firstServed 4 RX3 wsX3_firstServed D (tC cI cL cS) 490 ad) (Y : RX meth (some .int)) {q1 : Nat} {w : Wd} {out : Int32} (hq1 : isLn q1) : ∀ (n : Nat) (x2 : Int32), m_X3_firstServed_L2 q1 w n x2 = some out → WJ p l e rmX3_firstServed s m args below meth c (MQ below (QWi D 490 ad (cellC cI cL cS ad) out w) args s 0 0 (AW 490 ad)) 4 D 490 ad (cellC cI cL cS ad) w 2 [(0, .ref (ad 476)), (1, .ref (ad q1)), (2, .int x2)] [] := by
  intro n
  induction n with
  | zero => intro x2 hf; exact f_n hf
  | succ n ih =>
    intro x2 hf
    rw [m_X3_firstServed_L2] at hf
    refine j_iload_n X 2 dX3_firstServed_2 rfl rfl ?_
    refine j_aload_n X 1 dX3_firstServed_3 rfl rfl ?_
    obtain ⟨o1, ho1, hf⟩ := f_bd hf
    refine j_callVi X (oLn hq1) rfl rfl [] (c_X2_length X.2.2.2.2.2.2.2 hq1 ho1) (cwV 0 X.2.2.2.2.1 gX3_firstServed_X2_length rfl rfl rfl (by decide +kernel) ⟨Nat.le_of_ble_eq_true rfl, Nat.le_of_ble_eq_true rfl⟩) rfl rfl (Nat.le_of_ble_eq_true rfl) dX3_firstServed_4 ?_
    refine j_icmp_ge (tgt := 42) X dX3_firstServed_7 (by decide) (fun c => ?_) (fun c => ?_)
    · replace hf := f_t c hf
      refine j_iconst X (v := (nI 0)) (by decide) dX3_firstServed_42 ?_
      exact j_iret X Y (f_s hf) rfl dX3_firstServed_43
    replace hf := f_f c hf
    refine j_aload_n X 1 dX3_firstServed_10 rfl rfl ?_
    refine j_iload_n X 2 dX3_firstServed_11 rfl rfl ?_
    obtain ⟨o2, ho2, hf⟩ := f_bd hf
    refine j_callVi X (oLn hq1) rfl rfl [.int x2] (c_X2_at X.2.2.2.2.2.2.2 hq1 ho2) (cwV 1 X.2.2.2.2.1 gX3_firstServed_X2_at rfl rfl rfl (by decide +kernel) ⟨Nat.le_of_ble_eq_true rfl, Nat.le_of_ble_eq_true rfl⟩) rfl rfl (Nat.le_of_ble_eq_true rfl) dX3_firstServed_12 ?_
    refine j_istore_n (lv' := [(0, .ref (ad 476)), (1, .ref (ad q1)), (2, .int x2), (3, .int o2)]) X dX3_firstServed_15 rfl (by decide) rfl ?_
    refine j_iload_n X 3 dX3_firstServed_16 rfl rfl ?_
    obtain ⟨o3, ho3, hf⟩ := f_bd hf
    refine j_callSNi X [.int o2] (c_X7_versionOf X.2.2.2.2.2.2.2 ho3) ⟨va_cnB 1 X.2.2.2.2.1 gX3_firstServed_X7_versionOf_n163 rfl rfl rfl (X.2.2.2.2.2.2.1.2 ("ProxyVersions$Network", 163, ⟨"ProxyVersions", "versionOf", "(I)I"⟩, "ProxyVersions") (List.mem_of_getElem? (i := 2) rfl)) (X.2.2.2.2.1 _ (List.mem_of_getElem? (i := 14) rfl)) (by decide +kernel) ⟨Nat.le_of_ble_eq_true rfl, Nat.le_of_ble_eq_true rfl⟩, X.2.2.2.2.1 _ (List.mem_of_getElem? (i := 13) rfl), trivial⟩ rfl rfl (Nat.le_of_ble_eq_true rfl) dX3_firstServed_17 ?_
    refine j_aload_n X 0 dX3_firstServed_20 rfl rfl ?_
    refine j_get (ref := "ProxyVersions$Network") (index := 24) (v := .ref (ad 473)) X oNe inX3_firstServed_X3 rfl 1 (by decide) (List.mem_of_getElem? (i := 1) rfl) rfl rfl dX3_firstServed_21 ?_
    refine j_iload_n X 3 dX3_firstServed_24 rfl rfl ?_
    obtain ⟨o4, ho4, hf⟩ := f_bd hf
    refine j_callSNi X [.int o2] (c_X7_originOf X.2.2.2.2.2.2.2 ho4) ⟨va_cnB 1 X.2.2.2.2.1 gX3_firstServed_X7_originOf_n160 rfl rfl rfl (X.2.2.2.2.2.2.1.2 ("ProxyVersions$Network", 160, ⟨"ProxyVersions", "originOf", "(I)I"⟩, "ProxyVersions") (List.mem_of_getElem? (i := 1) rfl)) (X.2.2.2.2.1 _ (List.mem_of_getElem? (i := 14) rfl)) (by decide +kernel) ⟨Nat.le_of_ble_eq_true rfl, Nat.le_of_ble_eq_true rfl⟩, X.2.2.2.2.1 _ (List.mem_of_getElem? (i := 16) rfl), trivial⟩ rfl rfl (Nat.le_of_ble_eq_true rfl) dX3_firstServed_25 ?_
    obtain ⟨o5, ho5, hf⟩ := f_bd hf
    refine j_callVi X oCa rfl rfl [.int o4] (c_X0_prefixFound X.2.2.2.2.2.2.2 ho5) (cwV 1 X.2.2.2.2.1 gX3_firstServed_X0_prefixFound rfl rfl rfl (by decide +kernel) ⟨Nat.le_of_ble_eq_true rfl, Nat.le_of_ble_eq_true rfl⟩) rfl rfl (Nat.le_of_ble_eq_true rfl) dX3_firstServed_28 ?_
    refine j_icmp_gt (tgt := 36) X dX3_firstServed_31 (by decide) (fun c => ?_) (fun c => ?_)
    · replace hf := f_t c hf
      refine j_iinc (v := (x2 + (nI 1))) (lv' := [(0, .ref (ad 476)), (1, .ref (ad q1)), (2, .int (x2 + (nI 1))), (3, .int o2)]) X 2 dX3_firstServed_36 rfl rfl (by decide) rfl ?_
      refine j_goto (tgt := 2) X dX3_firstServed_39 (by decide) ?_
      refine j_sub [0, 1, 2] rfl ?_
      exact ih _ hf
    replace hf := f_f c hf
    refine j_iload_n X 2 dX3_firstServed_34 rfl rfl ?_
    exact j_iret X Y (f_s hf) rfl dX3_firstServed_35
set_option maxRecDepth 100000 in
set_option maxHeartbeats 4000000 in
theorem c_X3_firstServed (hI : Inj 490 ad) {q1 : Nat} {w : Wd} {out : Int32} (hq1 : isLn q1) (hf : m_X3_firstServed q1 w = some out) : Met l yX3_firstServed wsX3_firstServed rmX3_firstServed (va_Pc [.ref (ad 476), .ref (ad q1)] (PW D (tC cI cL cS) 490 ad (cellC cI cL cS ad) w)) (QWi D 490 ad (cellC cI cL cS ad) out w) 0 0 (AW 490 ad) := by
  refine mk_met (maxL := 4) (ret := (some .int)) RX3 hI (by decide) rfl rfl (Nat.le_of_ble_eq_true rfl) rfl rfl (fun p e s m args below meth c X Y => ?_)
  unfold m_X3_firstServed at hf
  refine j_iconst X (v := (nI 0)) (by decide) dX3_firstServed_0 ?_
  refine j_istore_n (lv' := [(0, .ref (ad 476)), (1, .ref (ad q1)), (2, .int (nI 0))]) X dX3_firstServed_1 rfl (by decide) rfl ?_
  refine t_X3_firstServed_L2 X Y hq1 _ _ hf
abbrev rmX3_keepContent : Room := { frames := 2, cells := 0, slots := 0, locals := 51 }
theorem inX3_keepContent_X3 : ∀ w ∈ wsX30, w ∈ wsX3_keepContent := fun _ h => List.mem_cons_of_mem _ (List.mem_append_left _ (List.mem_append_left _ (List.mem_append_left _ (List.mem_append_right _ h))))
theorem inX3_keepContent_X5 : ∀ w ∈ wsX50, w ∈ wsX3_keepContent := fun _ h => List.mem_cons_of_mem _ (List.mem_append_left _ (List.mem_append_left _ (List.mem_append_right _ h)))
set_option maxRecDepth 100000 in
set_option maxHeartbeats 4000000 in
theorem c_X3_keepContent (hI : Inj 490 ad) {x1 : Int32} {x2 : Int32} {w : Wd} {out : Wd} (hf : m_X3_keepContent x1 x2 w = some out) : Met l yX3_keepContent wsX3_keepContent rmX3_keepContent (va_Pc [.ref (ad 476), .int x1, .int x2] (PW D (tC cI cL cS) 490 ad (cellC cI cL cS ad) w)) (QWv D 490 ad (cellC cI cL cS ad) out) 0 0 (AW 490 ad) := by
  refine mk_met (maxL := 4) (ret := none) RX3 hI (by decide) rfl rfl (Nat.le_of_ble_eq_true rfl) rfl rfl (fun p e s m args below meth c X Y => ?_)
  unfold m_X3_keepContent at hf
  refine j_aload_n X 0 dX3_keepContent_0 rfl rfl ?_
  refine j_get (ref := "ProxyVersions$Network") (index := 20) (v := .ref (ad 50)) X oNe inX3_keepContent_X3 rfl 0 (by decide) (List.mem_of_getElem? (i := 1) rfl) rfl rfl dX3_keepContent_1 ?_
  refine j_iload_n X 1 dX3_keepContent_4 rfl rfl ?_
  obtain ⟨o1, ho1, hf⟩ := f_bd hf
  refine j_callVr X oS0 rfl rfl [.int x1] (c_X5_contentsOf X.2.2.2.2.2.2.2 ho1) (cwV 1 X.2.2.2.2.1 gX3_keepContent_X5_contentsOf rfl rfl rfl (by decide +kernel) ⟨Nat.le_of_ble_eq_true rfl, Nat.le_of_ble_eq_true rfl⟩) rfl rfl (Nat.le_of_ble_eq_true rfl) dX3_keepContent_5 ?_
  have hlo1 := ln_X5_contentsOf ho1
  refine j_astore_n (lv' := [(0, .ref (ad 476)), (1, .int x1), (2, .int x2), (3, .ref (ad o1))]) X dX3_keepContent_8 rfl (by decide) rfl ?_
  refine j_aload_n X 3 dX3_keepContent_9 rfl rfl ?_
  refine j_iload_n X 2 dX3_keepContent_10 rfl rfl ?_
  obtain ⟨o2, ho2, hf⟩ := f_bd hf
  refine j_callVi X (oLn hlo1) rfl rfl [.int x2] (c_X2_append X.2.2.2.2.2.2.2 hlo1 ho2) (cwV 1 X.2.2.2.2.1 gX3_keepContent_X2_append rfl rfl rfl (by decide +kernel) ⟨Nat.le_of_ble_eq_true rfl, Nat.le_of_ble_eq_true rfl⟩) rfl rfl (Nat.le_of_ble_eq_true rfl) dX3_keepContent_11 ?_
  refine j_pop X rfl dX3_keepContent_14 ?_
  refine j_iload_n X 1 dX3_keepContent_15 rfl rfl ?_
  refine j_if_eq (tgt := 63) X dX3_keepContent_16 (by decide) (fun c => ?_) (fun c => ?_)
  · replace hf := f_t c hf
    exact j_vret X Y (f_s hf) dX3_keepContent_63
  replace hf := f_f c hf
  refine j_aload_n X 3 dX3_keepContent_19 rfl rfl ?_
  obtain ⟨o3, ho3, hf⟩ := f_bd hf
  refine j_callVi X (oLn hlo1) rfl rfl [] (c_X2_length X.2.2.2.2.2.2.2 hlo1 ho3) (cwV 0 X.2.2.2.2.1 gX3_keepContent_X2_length rfl rfl rfl (by decide +kernel) ⟨Nat.le_of_ble_eq_true rfl, Nat.le_of_ble_eq_true rfl⟩) rfl rfl (Nat.le_of_ble_eq_true rfl) dX3_keepContent_20 ?_
  refine j_aload_n X 0 dX3_keepContent_23 rfl rfl ?_
  refine j_get (ref := "ProxyVersions$Network") (index := 20) (v := .ref (ad 50)) X oNe inX3_keepContent_X3 rfl 0 (by decide) (List.mem_of_getElem? (i := 1) rfl) rfl rfl dX3_keepContent_24 ?_
  refine j_getN (ref := "ProxyVersions$State") (index := 58) (host := "ProxyVersions") (v := .int (o2.2 50 2)) X oS0 inX3_keepContent_X5 rfl 2 (by decide) (List.mem_of_getElem? (i := 13) rfl) rfl rfl dX3_keepContent_27 ?_
  refine j_icmp_le (tgt := 63) X dX3_keepContent_30 (by decide) (fun c => ?_) (fun c => ?_)
  · replace hf := f_t c hf
    exact j_vret X Y (f_s hf) dX3_keepContent_63
  replace hf := f_f c hf
  refine j_aload_n X 0 dX3_keepContent_33 rfl rfl ?_
  refine j_get (ref := "ProxyVersions$Network") (index := 24) (v := .ref (ad 473)) X oNe inX3_keepContent_X3 rfl 1 (by decide) (List.mem_of_getElem? (i := 2) rfl) rfl rfl dX3_keepContent_34 ?_
  refine j_iload_n X 1 dX3_keepContent_37 rfl rfl ?_
  obtain ⟨o4, ho4, hf⟩ := f_bd hf
  refine j_callVv X oCa rfl rfl [.int x1] (c_X0_findServed X.2.2.2.2.2.2.2 ho4) (cwV 1 X.2.2.2.2.1 gX3_keepContent_X0_findServed rfl rfl rfl (by decide +kernel) ⟨Nat.le_of_ble_eq_true rfl, Nat.le_of_ble_eq_true rfl⟩) rfl rfl (Nat.le_of_ble_eq_true rfl) dX3_keepContent_38 ?_
  refine j_aload_n X 3 dX3_keepContent_41 rfl rfl ?_
  refine j_aload_n X 0 dX3_keepContent_42 rfl rfl ?_
  refine j_aload_n X 3 dX3_keepContent_43 rfl rfl ?_
  obtain ⟨o5, ho5, hf⟩ := f_bd hf
  refine j_callVi X oNe rfl rfl [.ref (ad o1)] (c_X3_firstServed X.2.2.2.2.2.2.2 hlo1 ho5) (cwV 1 X.2.2.2.2.1 gX3_keepContent_X3_firstServed rfl rfl rfl (by decide +kernel) ⟨Nat.le_of_ble_eq_true rfl, Nat.le_of_ble_eq_true rfl⟩) rfl rfl (Nat.le_of_ble_eq_true rfl) dX3_keepContent_44 ?_
  obtain ⟨o6, ho6, hf⟩ := f_bd hf
  refine j_callVv X (oLn hlo1) rfl rfl [.int o5] (c_X2_removeAt X.2.2.2.2.2.2.2 hlo1 ho6) (cwV 1 X.2.2.2.2.1 gX3_keepContent_X2_removeAt rfl rfl rfl (by decide +kernel) ⟨Nat.le_of_ble_eq_true rfl, Nat.le_of_ble_eq_true rfl⟩) rfl rfl (Nat.le_of_ble_eq_true rfl) dX3_keepContent_47 ?_
  refine j_aload_n X 0 dX3_keepContent_50 rfl rfl ?_
  refine j_get (ref := "ProxyVersions$Network") (index := 20) (v := .ref (ad 50)) X oNe inX3_keepContent_X3 rfl 0 (by decide) (List.mem_of_getElem? (i := 1) rfl) rfl rfl dX3_keepContent_51 ?_
  refine j_dup X rfl dX3_keepContent_54 ?_
  refine j_getN (ref := "ProxyVersions$State") (index := 185) (host := "ProxyVersions") (v := .int (o6 50 6)) X oS0 inX3_keepContent_X5 rfl 6 (by decide) (List.mem_of_getElem? (i := 9) rfl) rfl rfl dX3_keepContent_55 ?_
  refine j_iconst X (v := (nI 1)) (by decide) dX3_keepContent_58 ?_
  refine j_iadd X dX3_keepContent_59 ?_
  obtain ⟨w7, ew7, hf⟩ := f_lt hf
  refine j_putN (ref := "ProxyVersions$State") (index := 185) (host := "ProxyVersions")  X oS0 inX3_keepContent_X5 tyX5_ok nmX5 rfl 6 (by decide) (List.mem_of_getElem? (i := 9) rfl) rfl rfl rfl (Nat.le_of_ble_eq_true rfl) rfl dX3_keepContent_60 ew7 ?_
  exact j_vret X Y (f_s hf) dX3_keepContent_63
abbrev rmX5_parentOf : Room := { frames := 0, cells := 0, slots := 0, locals := 0 }
theorem inX5_parentOf_X5 : ∀ w ∈ wsX50, w ∈ wsX5_parentOf := fun _ h => List.mem_cons_of_mem _ (List.mem_append_right _ h)
set_option maxRecDepth 100000 in
set_option maxHeartbeats 4000000 in
theorem c_X5_parentOf (hI : Inj 490 ad) {x1 : Int32} {w : Wd} {out : Int32} (hf : m_X5_parentOf x1 w = some out) : Met l yX5_parentOf wsX5_parentOf rmX5_parentOf (va_Pc [.ref (ad 50), .int x1] (PW D (tC cI cL cS) 490 ad (cellC cI cL cS ad) w)) (QWi D 490 ad (cellC cI cL cS ad) out w) 0 0 (AW 490 ad) := by
  refine mk_met (maxL := 2) (ret := (some .int)) RX5 hI (by decide) rfl rfl (Nat.le_of_ble_eq_true rfl) rfl rfl (fun p e s m args below meth c X Y => ?_)
  unfold m_X5_parentOf at hf
  refine j_iload_n X 1 dX5_parentOf_0 rfl rfl ?_
  refine j_if_lt (tgt := 22) X dX5_parentOf_1 (by decide) (fun c => ?_) (fun c => ?_)
  · replace hf := f_t c hf
    refine j_iconst X (v := (nI 0)) (by decide) dX5_parentOf_22 ?_
    exact j_iret X Y (f_s hf) rfl dX5_parentOf_23
  replace hf := f_f c hf
  refine j_iload_n X 1 dX5_parentOf_4 rfl rfl ?_
  refine j_aload_n X 0 dX5_parentOf_5 rfl rfl ?_
  refine j_get (ref := "ProxyVersions$State") (index := 21) (v := .ref (ad 51)) X oS0 inX5_parentOf_X5 rfl 7 (by decide) (List.mem_of_getElem? (i := 1) rfl) rfl rfl dX5_parentOf_6 ?_
  refine j_alen X 0 rfl i51 dX5_parentOf_9 ?_
  refine j_icmp_ge (tgt := 22) X dX5_parentOf_10 (by decide) (fun c => ?_) (fun c => ?_)
  · replace hf := f_t c hf
    refine j_iconst X (v := (nI 0)) (by decide) dX5_parentOf_22 ?_
    exact j_iret X Y (f_s hf) rfl dX5_parentOf_23
  replace hf := f_f c hf
  refine j_aload_n X 0 dX5_parentOf_13 rfl rfl ?_
  refine j_get (ref := "ProxyVersions$State") (index := 21) (v := .ref (ad 51)) X oS0 inX5_parentOf_X5 rfl 7 (by decide) (List.mem_of_getElem? (i := 1) rfl) rfl rfl dX5_parentOf_14 ?_
  refine j_iload_n X 1 dX5_parentOf_17 rfl rfl ?_
  obtain ⟨hi1, hf⟩ := f_c hf
  refine j_iald X 0 rfl i51 hi1 dX5_parentOf_18 ?_
  refine j_goto (tgt := 23) X dX5_parentOf_19 (by decide) ?_
  exact j_iret X Y (f_s hf) rfl dX5_parentOf_23
abbrev rmX5_hasChild : Room := { frames := 0, cells := 0, slots := 0, locals := 0 }
theorem inX5_hasChild_X5 : ∀ w ∈ wsX50, w ∈ wsX5_hasChild := fun _ h => List.mem_cons_of_mem _ (List.mem_append_right _ h)
set_option maxRecDepth 100000 in
set_option maxHeartbeats 4000000 in
theorem c_X5_hasChild (hI : Inj 490 ad) {x1 : Int32} {w : Wd} {out : Int32} (hf : m_X5_hasChild x1 w = some out) : Met l yX5_hasChild wsX5_hasChild rmX5_hasChild (va_Pc [.ref (ad 50), .int x1] (PW D (tC cI cL cS) 490 ad (cellC cI cL cS ad) w)) (QWi D 490 ad (cellC cI cL cS ad) out w) 0 0 (AW 490 ad) := by
  refine mk_met (maxL := 2) (ret := (some .boolean)) RX5 hI (by decide) rfl rfl (Nat.le_of_ble_eq_true rfl) rfl rfl (fun p e s m args below meth c X Y => ?_)
  unfold m_X5_hasChild at hf
  refine j_iload_n X 1 dX5_hasChild_0 rfl rfl ?_
  refine j_if_le (tgt := 16) X dX5_hasChild_1 (by decide) (fun c => ?_) (fun c => ?_)
  · replace hf := f_t c hf
    refine j_iconst X (v := (nI 0)) (by decide) dX5_hasChild_16 ?_
    exact j_bret X Y (Eq.trans (by decide : (nI 0) &&& 1 = (nI 0)) (f_s hf)) rfl dX5_hasChild_17
  replace hf := f_f c hf
  refine j_iload_n X 1 dX5_hasChild_4 rfl rfl ?_
  refine j_aload_n X 0 dX5_hasChild_5 rfl rfl ?_
  refine j_get (ref := "ProxyVersions$State") (index := 9) (v := .int (w 50 0)) X oS0 inX5_hasChild_X5 rfl 0 (by decide) (List.mem_of_getElem? (i := 1) rfl) rfl rfl dX5_hasChild_6 ?_
  refine j_icmp_ge (tgt := 16) X dX5_hasChild_9 (by decide) (fun c => ?_) (fun c => ?_)
  · replace hf := f_t c hf
    refine j_iconst X (v := (nI 0)) (by decide) dX5_hasChild_16 ?_
    exact j_bret X Y (Eq.trans (by decide : (nI 0) &&& 1 = (nI 0)) (f_s hf)) rfl dX5_hasChild_17
  replace hf := f_f c hf
  refine j_iconst X (v := (nI 1)) (by decide) dX5_hasChild_12 ?_
  refine j_goto (tgt := 17) X dX5_hasChild_13 (by decide) ?_
  exact j_bret X Y (Eq.trans (by decide : (nI 1) &&& 1 = (nI 1)) (f_s hf)) rfl dX5_hasChild_17
abbrev rmX5_queueOf : Room := { frames := 1, cells := 0, slots := 0, locals := 21 }
theorem inX5_queueOf_X5 : ∀ w ∈ wsX50, w ∈ wsX5_queueOf := fun _ h => List.mem_cons_of_mem _ (List.mem_append_right _ h)
set_option maxRecDepth 100000 in
set_option maxHeartbeats 4000000 in
theorem t_X5_queueOf_j14 (X : CX p rmX5_queueOf s m args c cX5_queueOf 3 RX5 wsX5_queueOf D (tC cI cL cS) 490 ad) (Y : RX meth (some (.object "ProxyVersions$Line"))) {w : Wd} {out : Nat} (hf : m_X5_queueOf_j14 w = some out) : WJ p l e rmX5_queueOf s m args below meth c (MQ below (QWr D 490 ad (cellC cI cL cS ad) out w) args s 0 0 (AW 490 ad)) 3 D 490 ad (cellC cI cL cS ad) w 14 [(0, .ref (ad 50))] [] := by
  unfold m_X5_queueOf_j14 at hf
  refine j_aload_n X 0 dX5_queueOf_14 rfl rfl ?_
  refine j_get (ref := "ProxyVersions$State") (index := 52) (v := .ref (ad 48)) X oS0 inX5_queueOf_X5 rfl 15 (by decide) (List.mem_of_getElem? (i := 1) rfl) rfl rfl dX5_queueOf_15 ?_
  exact j_aret X Y (f_s hf) rfl dX5_queueOf_18
set_option maxRecDepth 100000 in
set_option maxHeartbeats 4000000 in
theorem c_X5_queueOf (hI : Inj 490 ad) {x1 : Int32} {x2 : Int32} {w : Wd} {out : Nat} (hf : m_X5_queueOf x1 x2 w = some out) : Met l yX5_queueOf wsX5_queueOf rmX5_queueOf (va_Pc [.ref (ad 50), .int x1, .int x2] (PW D (tC cI cL cS) 490 ad (cellC cI cL cS ad) w)) (QWr D 490 ad (cellC cI cL cS ad) out w) 0 0 (AW 490 ad) := by
  refine mk_met (maxL := 3) (ret := (some (.object "ProxyVersions$Line"))) RX5 hI (by decide) rfl rfl (Nat.le_of_ble_eq_true rfl) rfl rfl (fun p e s m args below meth c X Y => ?_)
  unfold m_X5_queueOf at hf
  refine j_aload_n X 0 dX5_queueOf_0 rfl rfl ?_
  refine j_iload_n X 1 dX5_queueOf_1 rfl rfl ?_
  obtain ⟨o1, ho1, hf⟩ := f_bd hf
  refine j_callVi X oS0 rfl rfl [.int x1] (c_X5_hasChild X.2.2.2.2.2.2.2 ho1) (cwV 1 X.2.2.2.2.1 gX5_queueOf_X5_hasChild rfl rfl rfl (by decide +kernel) ⟨Nat.le_of_ble_eq_true rfl, Nat.le_of_ble_eq_true rfl⟩) rfl rfl (Nat.le_of_ble_eq_true rfl) dX5_queueOf_2 ?_
  refine j_if_eq (tgt := 14) X dX5_queueOf_5 (by decide) (fun c => ?_) (fun c => ?_)
  · replace hf := f_t c hf
    refine j_sub [0] rfl ?_
    exact t_X5_queueOf_j14 X Y hf
  replace hf := f_f c hf
  refine j_iload_n X 1 dX5_queueOf_8 rfl rfl ?_
  refine j_bipush X (v := (nI 8)) (by decide) dX5_queueOf_9 ?_
  refine j_icmp_lt (tgt := 19) X dX5_queueOf_11 (by decide) (fun c => ?_) (fun c => ?_)
  · replace hf := f_t c hf
    refine j_iload_n X 2 dX5_queueOf_19 rfl rfl ?_
    refine j_if_ne (tgt := 32) X dX5_queueOf_20 (by decide) (fun c => ?_) (fun c => ?_)
    · replace hf := f_t c hf
      refine j_aload_n X 0 dX5_queueOf_32 rfl rfl ?_
      refine j_get (ref := "ProxyVersions$State") (index := 46) (v := .ref (ad 58)) X oS0 inX5_queueOf_X5 rfl 14 (by decide) (List.mem_of_getElem? (i := 3) rfl) rfl rfl dX5_queueOf_33 ?_
      refine j_iload_n X 1 dX5_queueOf_36 rfl rfl ?_
      obtain ⟨hi2, hf⟩ := f_c hf
      refine j_aald X 1 rfl q58 hi2 dX5_queueOf_37 ?_
      exact j_aret X Y (f_s hf) rfl dX5_queueOf_38
    replace hf := f_fn c hf
    refine j_aload_n X 0 dX5_queueOf_23 rfl rfl ?_
    refine j_get (ref := "ProxyVersions$State") (index := 43) (v := .ref (ad 57)) X oS0 inX5_queueOf_X5 rfl 13 (by decide) (List.mem_of_getElem? (i := 2) rfl) rfl rfl dX5_queueOf_24 ?_
    refine j_iload_n X 1 dX5_queueOf_27 rfl rfl ?_
    obtain ⟨hi3, hf⟩ := f_c hf
    refine j_aald X 1 rfl q57 hi3 dX5_queueOf_28 ?_
    refine j_goto (tgt := 38) X dX5_queueOf_29 (by decide) ?_
    exact j_aret X Y (f_s hf) rfl dX5_queueOf_38
  replace hf := f_f c hf
  refine j_sub [0] rfl ?_
  exact t_X5_queueOf_j14 X Y hf
abbrev rmX3_enqueue : Room := { frames := 1, cells := 0, slots := 0, locals := 21 }
theorem inX3_enqueue_X3 : ∀ w ∈ wsX30, w ∈ wsX3_enqueue := fun _ h => List.mem_cons_of_mem _ (List.mem_append_left _ (List.mem_append_left _ (List.mem_append_right _ h)))
theorem inX3_enqueue_X5 : ∀ w ∈ wsX50, w ∈ wsX3_enqueue := fun _ h => List.mem_cons_of_mem _ (List.mem_append_left _ (List.mem_append_right _ h))
set_option maxRecDepth 100000 in
set_option maxHeartbeats 4000000 in
theorem c_X3_enqueue (hI : Inj 490 ad) {q1 : Nat} {x2 : Int32} {w : Wd} {out : Wd} (hq1 : isLn q1) (hf : m_X3_enqueue q1 x2 w = some out) : Met l yX3_enqueue wsX3_enqueue rmX3_enqueue (va_Pc [.ref (ad 476), .ref (ad q1), .int x2] (PW D (tC cI cL cS) 490 ad (cellC cI cL cS ad) w)) (QWv D 490 ad (cellC cI cL cS ad) out) 0 0 (AW 490 ad) := by
  refine mk_met (maxL := 3) (ret := none) RX3 hI (by decide) rfl rfl (Nat.le_of_ble_eq_true rfl) rfl rfl (fun p e s m args below meth c X Y => ?_)
  unfold m_X3_enqueue at hf
  refine j_aload_n X 1 dX3_enqueue_0 rfl rfl ?_
  refine j_iload_n X 2 dX3_enqueue_1 rfl rfl ?_
  obtain ⟨o1, ho1, hf⟩ := f_bd hf
  refine j_callVi X (oLn hq1) rfl rfl [.int x2] (c_X2_append X.2.2.2.2.2.2.2 hq1 ho1) (cwV 1 X.2.2.2.2.1 gX3_enqueue_X2_append rfl rfl rfl (by decide +kernel) ⟨Nat.le_of_ble_eq_true rfl, Nat.le_of_ble_eq_true rfl⟩) rfl rfl (Nat.le_of_ble_eq_true rfl) dX3_enqueue_2 ?_
  refine j_if_ne (tgt := 21) X dX3_enqueue_5 (by decide) (fun c => ?_) (fun c => ?_)
  · replace hf := f_t c hf
    exact j_vret X Y (f_s hf) dX3_enqueue_21
  replace hf := f_fn c hf
  refine j_aload_n X 0 dX3_enqueue_8 rfl rfl ?_
  refine j_get (ref := "ProxyVersions$Network") (index := 20) (v := .ref (ad 50)) X oNe inX3_enqueue_X3 rfl 0 (by decide) (List.mem_of_getElem? (i := 1) rfl) rfl rfl dX3_enqueue_9 ?_
  refine j_dup X rfl dX3_enqueue_12 ?_
  refine j_getN (ref := "ProxyVersions$State") (index := 195) (host := "ProxyVersions") (v := .int (o1.2 50 4)) X oS0 inX3_enqueue_X5 rfl 4 (by decide) (List.mem_of_getElem? (i := 10) rfl) rfl rfl dX3_enqueue_13 ?_
  refine j_iconst X (v := (nI 1)) (by decide) dX3_enqueue_16 ?_
  refine j_iadd X dX3_enqueue_17 ?_
  obtain ⟨w2, ew2, hf⟩ := f_lt hf
  refine j_putN (ref := "ProxyVersions$State") (index := 195) (host := "ProxyVersions")  X oS0 inX3_enqueue_X5 tyX5_ok nmX5 rfl 4 (by decide) (List.mem_of_getElem? (i := 10) rfl) rfl rfl rfl (Nat.le_of_ble_eq_true rfl) rfl dX3_enqueue_18 ew2 ?_
  exact j_vret X Y (f_s hf) dX3_enqueue_21
abbrev rmX5_isChildOf : Room := { frames := 1, cells := 0, slots := 0, locals := 21 }
set_option maxRecDepth 100000 in
set_option maxHeartbeats 4000000 in
theorem c_X5_isChildOf (hI : Inj 490 ad) {x1 : Int32} {x2 : Int32} {w : Wd} {out : Int32} (hf : m_X5_isChildOf x1 x2 w = some out) : Met l yX5_isChildOf wsX5_isChildOf rmX5_isChildOf (va_Pc [.ref (ad 50), .int x1, .int x2] (PW D (tC cI cL cS) 490 ad (cellC cI cL cS ad) w)) (QWi D 490 ad (cellC cI cL cS ad) out w) 0 0 (AW 490 ad) := by
  refine mk_met (maxL := 3) (ret := (some .boolean)) RX5 hI (by decide) rfl rfl (Nat.le_of_ble_eq_true rfl) rfl rfl (fun p e s m args below meth c X Y => ?_)
  unfold m_X5_isChildOf at hf
  refine j_aload_n X 0 dX5_isChildOf_0 rfl rfl ?_
  refine j_iload_n X 1 dX5_isChildOf_1 rfl rfl ?_
  obtain ⟨o1, ho1, hf⟩ := f_bd hf
  refine j_callVi X oS0 rfl rfl [.int x1] (c_X5_hasChild X.2.2.2.2.2.2.2 ho1) (cwV 1 X.2.2.2.2.1 gX5_isChildOf_X5_hasChild rfl rfl rfl (by decide +kernel) ⟨Nat.le_of_ble_eq_true rfl, Nat.le_of_ble_eq_true rfl⟩) rfl rfl (Nat.le_of_ble_eq_true rfl) dX5_isChildOf_2 ?_
  refine j_if_eq (tgt := 21) X dX5_isChildOf_5 (by decide) (fun c => ?_) (fun c => ?_)
  · replace hf := f_t c hf
    refine j_iconst X (v := (nI 0)) (by decide) dX5_isChildOf_21 ?_
    exact j_bret X Y (Eq.trans (by decide : (nI 0) &&& 1 = (nI 0)) (f_s hf)) rfl dX5_isChildOf_22
  replace hf := f_f c hf
  refine j_aload_n X 0 dX5_isChildOf_8 rfl rfl ?_
  refine j_iload_n X 1 dX5_isChildOf_9 rfl rfl ?_
  obtain ⟨o2, ho2, hf⟩ := f_bd hf
  refine j_callVi X oS0 rfl rfl [.int x1] (c_X5_parentOf X.2.2.2.2.2.2.2 ho2) (cwV 1 X.2.2.2.2.1 gX5_isChildOf_X5_parentOf rfl rfl rfl (by decide +kernel) ⟨Nat.le_of_ble_eq_true rfl, Nat.le_of_ble_eq_true rfl⟩) rfl rfl (Nat.le_of_ble_eq_true rfl) dX5_isChildOf_10 ?_
  refine j_iload_n X 2 dX5_isChildOf_13 rfl rfl ?_
  refine j_icmp_ne (tgt := 21) X dX5_isChildOf_14 (by decide) (fun c => ?_) (fun c => ?_)
  · replace hf := f_t c hf
    refine j_iconst X (v := (nI 0)) (by decide) dX5_isChildOf_21 ?_
    exact j_bret X Y (Eq.trans (by decide : (nI 0) &&& 1 = (nI 0)) (f_s hf)) rfl dX5_isChildOf_22
  replace hf := f_fn c hf
  refine j_iconst X (v := (nI 1)) (by decide) dX5_isChildOf_17 ?_
  refine j_goto (tgt := 22) X dX5_isChildOf_18 (by decide) ?_
  exact j_bret X Y (Eq.trans (by decide : (nI 1) &&& 1 = (nI 1)) (f_s hf)) rfl dX5_isChildOf_22
abbrev rmX3_passOn : Room := { frames := 2, cells := 0, slots := 0, locals := 43 }
theorem inX3_passOn_X3 : ∀ w ∈ wsX30, w ∈ wsX3_passOn := fun _ h => List.mem_cons_of_mem _ (List.mem_append_left _ (List.mem_append_left _ (List.mem_append_right _ h)))
theorem inX3_passOn_X5 : ∀ w ∈ wsX50, w ∈ wsX3_passOn := fun _ h => List.mem_cons_of_mem _ (List.mem_append_left _ (List.mem_append_right _ h))
set_option maxRecDepth 100000 in
set_option maxHeartbeats 4000000 in
theorem t_X3_passOn_j79 (X : CX p rmX3_passOn s m args c cX3_passOn 5 RX3 wsX3_passOn D (tC cI cL cS) 490 ad) (Y : RX meth none) {x1 : Int32} {x2 : Int32} {x3 : Int32} {x4 : Int32} {w : Wd} {kc : Int32 → Wd → Option (Wd)} {out : Wd} (hf : m_X3_passOn_j79 x1 x2 x3 x4 w kc = some out) (hk_kc : ∀ (y4 : Int32) (v : Wd), kc y4 v = some out → WJ p l e rmX3_passOn s m args below meth c (MQ below (QWv D 490 ad (cellC cI cL cS ad) out) args s 0 0 (AW 490 ad)) 5 D 490 ad (cellC cI cL cS ad) v 33 [(0, .ref (ad 476)), (1, .int x1), (2, .int x2), (3, .int x3), (4, .int y4)] []) : WJ p l e rmX3_passOn s m args below meth c (MQ below (QWv D 490 ad (cellC cI cL cS ad) out) args s 0 0 (AW 490 ad)) 5 D 490 ad (cellC cI cL cS ad) w 79 [(0, .ref (ad 476)), (1, .int x1), (2, .int x2), (3, .int x3), (4, .int x4)] [] := by
  unfold m_X3_passOn_j79 at hf
  refine j_iinc (v := (x4 + (nI 1))) (lv' := [(0, .ref (ad 476)), (1, .int x1), (2, .int x2), (3, .int x3), (4, .int (x4 + (nI 1)))]) X 4 dX3_passOn_79 rfl rfl (by decide) rfl ?_
  refine j_goto (tgt := 33) X dX3_passOn_82 (by decide) ?_
  exact hk_kc _ _ hf
set_option maxRecDepth 100000 in
set_option maxHeartbeats 4000000 in
theorem t_X3_passOn_L33 (X : CX p rmX3_passOn s m args c cX3_passOn 5 RX3 wsX3_passOn D (tC cI cL cS) 490 ad) (Y : RX meth none) {x1 : Int32} {x2 : Int32} {x3 : Int32} {out : Wd} : ∀ (n : Nat) (x4 : Int32) (w : Wd), m_X3_passOn_L33 x1 x2 x3 n x4 w = some out → WJ p l e rmX3_passOn s m args below meth c (MQ below (QWv D 490 ad (cellC cI cL cS ad) out) args s 0 0 (AW 490 ad)) 5 D 490 ad (cellC cI cL cS ad) w 33 [(0, .ref (ad 476)), (1, .int x1), (2, .int x2), (3, .int x3), (4, .int x4)] [] := by
  intro n
  induction n with
  | zero => intro x4 w hf; exact f_n hf
  | succ n ih =>
    intro x4 w hf
    rw [m_X3_passOn_L33] at hf
    refine j_iload X 4 dX3_passOn_33 rfl ?_
    refine j_aload_n X 0 dX3_passOn_35 rfl rfl ?_
    refine j_get (ref := "ProxyVersions$Network") (index := 20) (v := .ref (ad 50)) X oNe inX3_passOn_X3 rfl 0 (by decide) (List.mem_of_getElem? (i := 1) rfl) rfl rfl dX3_passOn_36 ?_
    refine j_getN (ref := "ProxyVersions$State") (index := 34) (host := "ProxyVersions") (v := .int (w 50 0)) X oS0 inX3_passOn_X5 rfl 0 (by decide) (List.mem_of_getElem? (i := 11) rfl) rfl rfl dX3_passOn_39 ?_
    refine j_icmp_ge (tgt := 85) X dX3_passOn_42 (by decide) (fun c => ?_) (fun c => ?_)
    · replace hf := f_t c hf
      exact j_vret X Y (f_s hf) dX3_passOn_85
    replace hf := f_f c hf
    refine j_iload X 4 dX3_passOn_45 rfl ?_
    refine j_iload_n X 2 dX3_passOn_47 rfl rfl ?_
    refine j_icmp_eq (tgt := 79) X dX3_passOn_48 (by decide) (fun c => ?_) (fun c => ?_)
    · replace hf := f_t c hf
      exact t_X3_passOn_j79 X Y hf ih
    replace hf := f_f c hf
    refine j_aload_n X 0 dX3_passOn_51 rfl rfl ?_
    refine j_get (ref := "ProxyVersions$Network") (index := 20) (v := .ref (ad 50)) X oNe inX3_passOn_X3 rfl 0 (by decide) (List.mem_of_getElem? (i := 1) rfl) rfl rfl dX3_passOn_52 ?_
    refine j_iload X 4 dX3_passOn_55 rfl ?_
    refine j_iload_n X 1 dX3_passOn_57 rfl rfl ?_
    obtain ⟨o1, ho1, hf⟩ := f_bd hf
    refine j_callVi X oS0 rfl rfl [.int x4, .int x1] (c_X5_isChildOf X.2.2.2.2.2.2.2 ho1) (cwV 2 X.2.2.2.2.1 gX3_passOn_X5_isChildOf rfl rfl rfl (by decide +kernel) ⟨Nat.le_of_ble_eq_true rfl, Nat.le_of_ble_eq_true rfl⟩) rfl rfl (Nat.le_of_ble_eq_true rfl) dX3_passOn_58 ?_
    refine j_if_eq (tgt := 79) X dX3_passOn_61 (by decide) (fun c => ?_) (fun c => ?_)
    · replace hf := f_t c hf
      exact t_X3_passOn_j79 X Y hf ih
    replace hf := f_f c hf
    refine j_aload_n X 0 dX3_passOn_64 rfl rfl ?_
    refine j_aload_n X 0 dX3_passOn_65 rfl rfl ?_
    refine j_get (ref := "ProxyVersions$Network") (index := 20) (v := .ref (ad 50)) X oNe inX3_passOn_X3 rfl 0 (by decide) (List.mem_of_getElem? (i := 1) rfl) rfl rfl dX3_passOn_66 ?_
    refine j_iload X 4 dX3_passOn_69 rfl ?_
    refine j_iconst X (v := (nI 1)) (by decide) dX3_passOn_71 ?_
    obtain ⟨o2, ho2, hf⟩ := f_bd hf
    refine j_callVr X oS0 rfl rfl [.int x4, .int (nI 1)] (c_X5_queueOf X.2.2.2.2.2.2.2 ho2) (cwV 2 X.2.2.2.2.1 gX3_passOn_X5_queueOf rfl rfl rfl (by decide +kernel) ⟨Nat.le_of_ble_eq_true rfl, Nat.le_of_ble_eq_true rfl⟩) rfl rfl (Nat.le_of_ble_eq_true rfl) dX3_passOn_72 ?_
    have hlo2 := ln_X5_queueOf ho2
    refine j_iload_n X 3 dX3_passOn_75 rfl rfl ?_
    obtain ⟨o3, ho3, hf⟩ := f_bd hf
    refine j_callVv X oNe rfl rfl [.ref (ad o2), .int x3] (c_X3_enqueue X.2.2.2.2.2.2.2 hlo2 ho3) (cwV 2 X.2.2.2.2.1 gX3_passOn_X3_enqueue rfl rfl rfl (by decide +kernel) ⟨Nat.le_of_ble_eq_true rfl, Nat.le_of_ble_eq_true rfl⟩) rfl rfl (Nat.le_of_ble_eq_true rfl) dX3_passOn_76 ?_
    exact t_X3_passOn_j79 X Y hf ih
set_option maxRecDepth 100000 in
set_option maxHeartbeats 4000000 in
theorem t_X3_passOn_j30 (X : CX p rmX3_passOn s m args c cX3_passOn 5 RX3 wsX3_passOn D (tC cI cL cS) 490 ad) (Y : RX meth none) {x1 : Int32} {x2 : Int32} {x3 : Int32} {w : Wd} {out : Wd} (hf : m_X3_passOn_j30 x1 x2 x3 w = some out) : WJ p l e rmX3_passOn s m args below meth c (MQ below (QWv D 490 ad (cellC cI cL cS ad) out) args s 0 0 (AW 490 ad)) 5 D 490 ad (cellC cI cL cS ad) w 30 [(0, .ref (ad 476)), (1, .int x1), (2, .int x2), (3, .int x3)] [] := by
  unfold m_X3_passOn_j30 at hf
  refine j_iconst X (v := (nI 1)) (by decide) dX3_passOn_30 ?_
  refine j_istore (lv' := [(0, .ref (ad 476)), (1, .int x1), (2, .int x2), (3, .int x3), (4, .int (nI 1))]) X dX3_passOn_31 (by decide) rfl ?_
  refine t_X3_passOn_L33 X Y _ _ _ hf
set_option maxRecDepth 100000 in
set_option maxHeartbeats 4000000 in
theorem c_X3_passOn (hI : Inj 490 ad) {x1 : Int32} {x2 : Int32} {x3 : Int32} {w : Wd} {out : Wd} (hf : m_X3_passOn x1 x2 x3 w = some out) : Met l yX3_passOn wsX3_passOn rmX3_passOn (va_Pc [.ref (ad 476), .int x1, .int x2, .int x3] (PW D (tC cI cL cS) 490 ad (cellC cI cL cS ad) w)) (QWv D 490 ad (cellC cI cL cS ad) out) 0 0 (AW 490 ad) := by
  refine mk_met (maxL := 5) (ret := none) RX3 hI (by decide) rfl rfl (Nat.le_of_ble_eq_true rfl) rfl rfl (fun p e s m args below meth c X Y => ?_)
  unfold m_X3_passOn at hf
  refine j_iload_n X 1 dX3_passOn_0 rfl rfl ?_
  refine j_if_eq (tgt := 30) X dX3_passOn_1 (by decide) (fun c => ?_) (fun c => ?_)
  · replace hf := f_t c hf
    exact t_X3_passOn_j30 X Y hf
  replace hf := f_f c hf
  refine j_aload_n X 0 dX3_passOn_4 rfl rfl ?_
  refine j_get (ref := "ProxyVersions$Network") (index := 20) (v := .ref (ad 50)) X oNe inX3_passOn_X3 rfl 0 (by decide) (List.mem_of_getElem? (i := 1) rfl) rfl rfl dX3_passOn_5 ?_
  refine j_iload_n X 1 dX3_passOn_8 rfl rfl ?_
  obtain ⟨o1, ho1, hf⟩ := f_bd hf
  refine j_callVi X oS0 rfl rfl [.int x1] (c_X5_parentOf X.2.2.2.2.2.2.2 ho1) (cwV 1 X.2.2.2.2.1 gX3_passOn_X5_parentOf rfl rfl rfl (by decide +kernel) ⟨Nat.le_of_ble_eq_true rfl, Nat.le_of_ble_eq_true rfl⟩) rfl rfl (Nat.le_of_ble_eq_true rfl) dX3_passOn_9 ?_
  refine j_iload_n X 2 dX3_passOn_12 rfl rfl ?_
  refine j_icmp_eq (tgt := 30) X dX3_passOn_13 (by decide) (fun c => ?_) (fun c => ?_)
  · replace hf := f_t c hf
    exact t_X3_passOn_j30 X Y hf
  replace hf := f_f c hf
  refine j_aload_n X 0 dX3_passOn_16 rfl rfl ?_
  refine j_aload_n X 0 dX3_passOn_17 rfl rfl ?_
  refine j_get (ref := "ProxyVersions$Network") (index := 20) (v := .ref (ad 50)) X oNe inX3_passOn_X3 rfl 0 (by decide) (List.mem_of_getElem? (i := 1) rfl) rfl rfl dX3_passOn_18 ?_
  refine j_iload_n X 1 dX3_passOn_21 rfl rfl ?_
  refine j_iconst X (v := (nI 0)) (by decide) dX3_passOn_22 ?_
  obtain ⟨o2, ho2, hf⟩ := f_bd hf
  refine j_callVr X oS0 rfl rfl [.int x1, .int (nI 0)] (c_X5_queueOf X.2.2.2.2.2.2.2 ho2) (cwV 2 X.2.2.2.2.1 gX3_passOn_X5_queueOf rfl rfl rfl (by decide +kernel) ⟨Nat.le_of_ble_eq_true rfl, Nat.le_of_ble_eq_true rfl⟩) rfl rfl (Nat.le_of_ble_eq_true rfl) dX3_passOn_23 ?_
  have hlo2 := ln_X5_queueOf ho2
  refine j_iload_n X 3 dX3_passOn_26 rfl rfl ?_
  obtain ⟨o3, ho3, hf⟩ := f_bd hf
  refine j_callVv X oNe rfl rfl [.ref (ad o2), .int x3] (c_X3_enqueue X.2.2.2.2.2.2.2 hlo2 ho3) (cwV 2 X.2.2.2.2.1 gX3_passOn_X3_enqueue rfl rfl rfl (by decide +kernel) ⟨Nat.le_of_ble_eq_true rfl, Nat.le_of_ble_eq_true rfl⟩) rfl rfl (Nat.le_of_ble_eq_true rfl) dX3_passOn_27 ?_
  exact t_X3_passOn_j30 X Y hf
end WALK11
