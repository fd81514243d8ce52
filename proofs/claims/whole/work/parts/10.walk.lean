/-! ===== the bytecode does what the model says (printed by wip/whole/tools/gen.py) ===== -/
section WALK10
variable {p : Program} {l : Launch} {e : Env} {s : State} {m : MethodId} {args : Array Value} {below : List Frame} {meth : Method} {c : Code} {D : va_G} {cI cL cS : ClassId} {ad : Nat → Nat}
abbrev rmX6_prefixOf : Room := { frames := 0, cells := 0, slots := 0, locals := 0 }
set_option maxRecDepth 100000 in
set_option maxHeartbeats 4000000 in
theorem t_X6_prefixOf_L2 (X : CX p rmX6_prefixOf s m args c cX6_prefixOf 2 RX6 wsX6_prefixOf D (tC cI cL cS) 490 ad) (Y : RX meth (some .int)) {x0 : Int32} {w : Wd} {out : Int32} : ∀ (n : Nat) (x1 : Int32), m_X6_prefixOf_L2 x0 n x1 = some out → WJ p l e rmX6_prefixOf s m args below meth c (MQ below (QWi D 490 ad (cellC cI cL cS ad) out w) args s 0 0 (AW 490 ad)) 2 D 490 ad (cellC cI cL cS ad) w 2 [(0, .int x0), (1, .int x1)] [] := by
  intro n
  induction n with
  | zero => intro x1 hf; exact f_n hf
  | succ n ih =>
    intro x1 hf
    rw [m_X6_prefixOf_L2] at hf
    refine j_iload_n X 1 dX6_prefixOf_2 rfl rfl ?_
    refine j_bipush X (v := (24 : Int32)) (by decide) dX6_prefixOf_3 ?_
    refine j_icmp_ge (tgt := 22) X dX6_prefixOf_5 (by decide) (fun c => ?_) (fun c => ?_)
    · replace hf := f_t c hf
      refine j_iload_n X 1 dX6_prefixOf_22 rfl rfl ?_
      exact j_iret X Y (f_s hf) rfl dX6_prefixOf_23
    replace hf := f_f c hf
    refine j_iload_n X 0 dX6_prefixOf_8 rfl rfl ?_
    refine j_iload_n X 1 dX6_prefixOf_9 rfl rfl ?_
    refine j_ishr X dX6_prefixOf_10 ?_
    refine j_iconst X (v := (1 : Int32)) rfl dX6_prefixOf_11 ?_
    refine j_iand X dX6_prefixOf_12 ?_
    refine j_if_eq (tgt := 22) X dX6_prefixOf_13 (by decide) (fun c => ?_) (fun c => ?_)
    · replace hf := f_t c hf
      refine j_iload_n X 1 dX6_prefixOf_22 rfl rfl ?_
      exact j_iret X Y (f_s hf) rfl dX6_prefixOf_23
    replace hf := f_f c hf
    refine j_iinc (v := (x1 + (1 : Int32))) (lv' := [(0, .int x0), (1, .int (x1 + (1 : Int32)))]) X 1 dX6_prefixOf_16 rfl rfl (by decide) rfl ?_
    refine j_goto (tgt := 2) X dX6_prefixOf_19 (by decide) ?_
    exact ih _ hf
set_option maxRecDepth 100000 in
set_option maxHeartbeats 4000000 in
theorem c_X6_prefixOf (hI : Inj 490 ad) {x0 : Int32} {w : Wd} {out : Int32} (hf : m_X6_prefixOf x0 = some out) : Met l yX6_prefixOf wsX6_prefixOf rmX6_prefixOf (va_Pc [.int x0] (PW D (tC cI cL cS) 490 ad (cellC cI cL cS ad) w)) (QWi D 490 ad (cellC cI cL cS ad) out w) 0 0 (AW 490 ad) := by
  refine mk_met (maxL := 2) (ret := (some .int)) RX6 hI (by decide) rfl rfl (Nat.le_of_ble_eq_true rfl) rfl rfl (fun p e s m args below meth c X Y => ?_)
  unfold m_X6_prefixOf at hf
  refine j_iconst X (v := (0 : Int32)) rfl dX6_prefixOf_0 ?_
  refine j_istore_n (lv' := [(0, .int x0), (1, .int (0 : Int32))]) X dX6_prefixOf_1 rfl (by decide) rfl ?_
  refine t_X6_prefixOf_L2 X Y _ _ hf
abbrev rmX6_contains : Room := { frames := 0, cells := 0, slots := 0, locals := 0 }
set_option maxRecDepth 100000 in
set_option maxHeartbeats 4000000 in
theorem c_X6_contains (hI : Inj 490 ad) {x0 : Int32} {x1 : Int32} {w : Wd} {out : Int32} (hf : m_X6_contains x0 x1 = some out) : Met l yX6_contains wsX6_contains rmX6_contains (va_Pc [.int x0, .int x1] (PW D (tC cI cL cS) 490 ad (cellC cI cL cS ad) w)) (QWi D 490 ad (cellC cI cL cS ad) out w) 0 0 (AW 490 ad) := by
  refine mk_met (maxL := 2) (ret := (some .boolean)) RX6 hI (by decide) rfl rfl (Nat.le_of_ble_eq_true rfl) rfl rfl (fun p e s m args below meth c X Y => ?_)
  unfold m_X6_contains at hf
  refine j_iload_n X 1 dX6_contains_0 rfl rfl ?_
  refine j_iconst X (v := (1 : Int32)) rfl dX6_contains_1 ?_
  refine j_icmp_lt (tgt := 25) X dX6_contains_2 (by decide) (fun c => ?_) (fun c => ?_)
  · replace hf := f_t c hf
    refine j_iconst X (v := (0 : Int32)) rfl dX6_contains_25 ?_
    exact j_bret X Y (Eq.trans (by decide : (0 : Int32) &&& 1 = (0 : Int32)) (f_s hf)) rfl dX6_contains_26
  replace hf := f_f c hf
  refine j_iload_n X 1 dX6_contains_5 rfl rfl ?_
  refine j_bipush X (v := (24 : Int32)) (by decide) dX6_contains_6 ?_
  refine j_icmp_gt (tgt := 25) X dX6_contains_8 (by decide) (fun c => ?_) (fun c => ?_)
  · replace hf := f_t c hf
    refine j_iconst X (v := (0 : Int32)) rfl dX6_contains_25 ?_
    exact j_bret X Y (Eq.trans (by decide : (0 : Int32) &&& 1 = (0 : Int32)) (f_s hf)) rfl dX6_contains_26
  replace hf := f_f c hf
  refine j_iload_n X 0 dX6_contains_11 rfl rfl ?_
  refine j_iload_n X 1 dX6_contains_12 rfl rfl ?_
  refine j_iconst X (v := (1 : Int32)) rfl dX6_contains_13 ?_
  refine j_isub X dX6_contains_14 ?_
  refine j_ishr X dX6_contains_15 ?_
  refine j_iconst X (v := (1 : Int32)) rfl dX6_contains_16 ?_
  refine j_iand X dX6_contains_17 ?_
  refine j_if_eq (tgt := 25) X dX6_contains_18 (by decide) (fun c => ?_) (fun c => ?_)
  · replace hf := f_t c hf
    refine j_iconst X (v := (0 : Int32)) rfl dX6_contains_25 ?_
    exact j_bret X Y (Eq.trans (by decide : (0 : Int32) &&& 1 = (0 : Int32)) (f_s hf)) rfl dX6_contains_26
  replace hf := f_f c hf
  refine j_iconst X (v := (1 : Int32)) rfl dX6_contains_21 ?_
  refine j_goto (tgt := 26) X dX6_contains_22 (by decide) ?_
  exact j_bret X Y (Eq.trans (by decide : (1 : Int32) &&& 1 = (1 : Int32)) (f_s hf)) rfl dX6_contains_26
abbrev rmJ9_floorMod_7cf53 : Room := { frames := 0, cells := 0, slots := 0, locals := 0 }
set_option maxRecDepth 100000 in
set_option maxHeartbeats 4000000 in
theorem c_J9_floorMod_7cf53 (hI : Inj 490 ad) {x0 : Int32} {x1 : Int32} {w : Wd} {out : Int32} (hf : m_J9_floorMod_7cf53 x0 x1 = some out) : Met l yJ9_floorMod_7cf53 wsJ9_floorMod_7cf53 rmJ9_floorMod_7cf53 (va_Pc [.int x0, .int x1] (PW D (tC cI cL cS) 490 ad (cellC cI cL cS ad) w)) (QWi D 490 ad (cellC cI cL cS ad) out w) 0 0 (AW 490 ad) := by
  refine mk_metF (maxL := 3) (ret := (some .int)) RJ9 hI (by decide +kernel) rfl rfl (Nat.le_of_ble_eq_true rfl) rfl rfl (fun p e s m args below meth c X Y => ?_)
  unfold m_J9_floorMod_7cf53 at hf
  refine j_iload_n X 0 dJ9_floorMod_7cf53_0 rfl rfl ?_
  refine j_iload_n X 1 dJ9_floorMod_7cf53_1 rfl rfl ?_
  obtain ⟨hne1, hf⟩ := f_c2 hf
  refine j_irem X hne1 dJ9_floorMod_7cf53_2 ?_
  obtain ⟨x2_2, ex2_2, hf⟩ := f_lt hf
  refine j_top ex2_2 ?_
  refine j_istore_n (lv' := [(0, .int x0), (1, .int x1), (2, .int x2_2)]) X dJ9_floorMod_7cf53_3 rfl (by decide) rfl ?_
  refine j_iload_n X 0 dJ9_floorMod_7cf53_4 rfl rfl ?_
  refine j_iload_n X 1 dJ9_floorMod_7cf53_5 rfl rfl ?_
  refine j_ixor X dJ9_floorMod_7cf53_6 ?_
  refine j_if_ge (tgt := 18) X dJ9_floorMod_7cf53_7 (by decide) (fun c => ?_) (fun c => ?_)
  · replace hf := f_t c hf
    refine j_iload_n X 2 dJ9_floorMod_7cf53_18 rfl rfl ?_
    exact j_iret X Y (f_s hf) rfl dJ9_floorMod_7cf53_19
  replace hf := f_f c hf
  refine j_iload_n X 2 dJ9_floorMod_7cf53_10 rfl rfl ?_
  refine j_if_eq (tgt := 18) X dJ9_floorMod_7cf53_11 (by decide) (fun c => ?_) (fun c => ?_)
  · replace hf := f_t c hf
    refine j_iload_n X 2 dJ9_floorMod_7cf53_18 rfl rfl ?_
    exact j_iret X Y (f_s hf) rfl dJ9_floorMod_7cf53_19
  replace hf := f_f c hf
  refine j_iload_n X 2 dJ9_floorMod_7cf53_14 rfl rfl ?_
  refine j_iload_n X 1 dJ9_floorMod_7cf53_15 rfl rfl ?_
  refine j_iadd X dJ9_floorMod_7cf53_16 ?_
  exact j_iret X Y (f_s hf) rfl dJ9_floorMod_7cf53_17
abbrev rmX2_copyFrom : Room := { frames := 1, cells := 0, slots := 0, locals := 60 }
theorem inX2_copyFrom_X2 : ∀ w ∈ wsX20, w ∈ wsX2_copyFrom := fun _ h => List.mem_cons_of_mem _ (List.mem_append_right _ h)
set_option maxRecDepth 100000 in
set_option maxHeartbeats 4000000 in
theorem c_X2_copyFrom (hI : Inj 490 ad) {q0 : Nat} {q1 : Nat} {w : Wd} {out : Wd} (hq0 : isLn q0) (hq1 : isLn q1) (hf : m_X2_copyFrom q0 q1 w = some out) : Met l yX2_copyFrom wsX2_copyFrom rmX2_copyFrom (va_Pc [.ref (ad q0), .ref (ad q1)] (PW D (tC cI cL cS) 490 ad (cellC cI cL cS ad) w)) (QWv D 490 ad (cellC cI cL cS ad) out) 0 0 (AW 490 ad) := by
  refine mk_met (maxL := 2) (ret := none) RX2 hI (by decide) rfl rfl (Nat.le_of_ble_eq_true rfl) rfl rfl (fun p e s m args below meth c X Y => ?_)
  unfold m_X2_copyFrom at hf
  refine j_aload_n X 1 dX2_copyFrom_0 rfl rfl ?_
  refine j_get (ref := "ProxyVersions$Line") (index := 13) (v := .ref (ad (q1 + 1))) X (oLn hq1) inX2_copyFrom_X2 rfl 0 (by decide) (List.mem_of_getElem? (i := 1) rfl) rfl rfl dX2_copyFrom_1 ?_
  refine j_iconst X (v := (0 : Int32)) rfl dX2_copyFrom_4 ?_
  refine j_aload_n X 0 dX2_copyFrom_5 rfl rfl ?_
  refine j_get (ref := "ProxyVersions$Line") (index := 13) (v := .ref (ad (q0 + 1))) X (oLn hq0) inX2_copyFrom_X2 rfl 0 (by decide) (List.mem_of_getElem? (i := 1) rfl) rfl rfl dX2_copyFrom_6 ?_
  refine j_iconst X (v := (0 : Int32)) rfl dX2_copyFrom_9 ?_
  refine j_aload_n X 1 dX2_copyFrom_10 rfl rfl ?_
  refine j_get (ref := "ProxyVersions$Line") (index := 13) (v := .ref (ad (q1 + 1))) X (oLn hq1) inX2_copyFrom_X2 rfl 0 (by decide) (List.mem_of_getElem? (i := 1) rfl) rfl rfl dX2_copyFrom_11 ?_
  refine j_alen X 0 rfl (iLn hq1) dX2_copyFrom_14 ?_
  refine j_aload_n X 0 dX2_copyFrom_15 rfl rfl ?_
  refine j_get (ref := "ProxyVersions$Line") (index := 13) (v := .ref (ad (q0 + 1))) X (oLn hq0) inX2_copyFrom_X2 rfl 0 (by decide) (List.mem_of_getElem? (i := 1) rfl) rfl rfl dX2_copyFrom_16 ?_
  refine j_alen X 0 rfl (iLn hq0) dX2_copyFrom_19 ?_
  refine j_mmin X (List.mem_of_getElem? (i := 2) rfl) (List.mem_of_getElem? (i := 3) rfl) (List.mem_of_getElem? (i := 4) rfl) (List.mem_of_getElem? (i := 5) rfl) (Nat.le_of_ble_eq_true rfl) (Nat.le_of_ble_eq_true rfl) dX2_copyFrom_20 ?_
  obtain ⟨hi1, hf⟩ := f_c hf
  obtain ⟨w2, ew2, hf⟩ := f_lt hf
  refine j_copy X (List.mem_of_getElem? (i := 6) rfl) (List.mem_of_getElem? (i := 7) rfl) (List.mem_of_getElem? (i := 8) rfl) (List.mem_of_getElem? (i := 9) rfl) 0 rfl (iLn hq1) (iLn hq0) hi1.1 hi1.2.1 hi1.2.2.1 hi1.2.2.2.1 hi1.2.2.2.2 (Nat.le_of_ble_eq_true rfl) (by decide +kernel) dX2_copyFrom_23 ew2 ?_
  refine j_aload_n X 0 dX2_copyFrom_26 rfl rfl ?_
  refine j_aload_n X 1 dX2_copyFrom_27 rfl rfl ?_
  refine j_get (ref := "ProxyVersions$Line") (index := 19) (v := .int (w2 q1 1)) X (oLn hq1) inX2_copyFrom_X2 rfl 1 (by decide) (List.mem_of_getElem? (i := 10) rfl) rfl rfl dX2_copyFrom_28 ?_
  refine j_aload_n X 0 dX2_copyFrom_31 rfl rfl ?_
  refine j_get (ref := "ProxyVersions$Line") (index := 13) (v := .ref (ad (q0 + 1))) X (oLn hq0) inX2_copyFrom_X2 rfl 0 (by decide) (List.mem_of_getElem? (i := 1) rfl) rfl rfl dX2_copyFrom_32 ?_
  refine j_alen X 0 rfl (iLn hq0) dX2_copyFrom_35 ?_
  refine j_mmin X (List.mem_of_getElem? (i := 2) rfl) (List.mem_of_getElem? (i := 3) rfl) (List.mem_of_getElem? (i := 4) rfl) (List.mem_of_getElem? (i := 5) rfl) (Nat.le_of_ble_eq_true rfl) (Nat.le_of_ble_eq_true rfl) dX2_copyFrom_36 ?_
  obtain ⟨w3, ew3, hf⟩ := f_lt hf
  refine j_put (ref := "ProxyVersions$Line") (index := 19)  X (oLn hq0) inX2_copyFrom_X2 tyX2_ok nmX2 rfl 1 (by decide) (List.mem_of_getElem? (i := 10) rfl) rfl rfl rfl (Nat.le_of_ble_eq_true rfl) rfl dX2_copyFrom_39 ew3 ?_
  exact j_vret X Y (f_s hf) dX2_copyFrom_42
abbrev rmX2_length : Room := { frames := 0, cells := 0, slots := 0, locals := 0 }
theorem inX2_length_X2 : ∀ w ∈ wsX20, w ∈ wsX2_length := fun _ h => List.mem_cons_of_mem _ (List.mem_append_right _ h)
set_option maxRecDepth 100000 in
set_option maxHeartbeats 4000000 in
theorem c_X2_length (hI : Inj 490 ad) {q0 : Nat} {w : Wd} {out : Int32} (hq0 : isLn q0) (hf : m_X2_length q0 w = some out) : Met l yX2_length wsX2_length rmX2_length (va_Pc [.ref (ad q0)] (PW D (tC cI cL cS) 490 ad (cellC cI cL cS ad) w)) (QWi D 490 ad (cellC cI cL cS ad) out w) 0 0 (AW 490 ad) := by
  refine mk_met (maxL := 1) (ret := (some .int)) RX2 hI (by decide) rfl rfl (Nat.le_of_ble_eq_true rfl) rfl rfl (fun p e s m args below meth c X Y => ?_)
  unfold m_X2_length at hf
  refine j_aload_n X 0 dX2_length_0 rfl rfl ?_
  refine j_get (ref := "ProxyVersions$Line") (index := 19) (v := .int (w q0 1)) X (oLn hq0) inX2_length_X2 rfl 1 (by decide) (List.mem_of_getElem? (i := 1) rfl) rfl rfl dX2_length_1 ?_
  exact j_iret X Y (f_s hf) rfl dX2_length_4
abbrev rmX2_at : Room := { frames := 0, cells := 0, slots := 0, locals := 0 }
theorem inX2_at_X2 : ∀ w ∈ wsX20, w ∈ wsX2_at := fun _ h => List.mem_cons_of_mem _ (List.mem_append_right _ h)
set_option maxRecDepth 100000 in
set_option maxHeartbeats 4000000 in
theorem c_X2_at (hI : Inj 490 ad) {q0 : Nat} {x1 : Int32} {w : Wd} {out : Int32} (hq0 : isLn q0) (hf : m_X2_at q0 x1 w = some out) : Met l yX2_at wsX2_at rmX2_at (va_Pc [.ref (ad q0), .int x1] (PW D (tC cI cL cS) 490 ad (cellC cI cL cS ad) w)) (QWi D 490 ad (cellC cI cL cS ad) out w) 0 0 (AW 490 ad) := by
  refine mk_met (maxL := 2) (ret := (some .int)) RX2 hI (by decide) rfl rfl (Nat.le_of_ble_eq_true rfl) rfl rfl (fun p e s m args below meth c X Y => ?_)
  unfold m_X2_at at hf
  refine j_iload_n X 1 dX2_at_0 rfl rfl ?_
  refine j_if_lt (tgt := 30) X dX2_at_1 (by decide) (fun c => ?_) (fun c => ?_)
  · replace hf := f_t c hf
    refine j_iconst X (v := (0 : Int32)) rfl dX2_at_30 ?_
    exact j_iret X Y (f_s hf) rfl dX2_at_31
  replace hf := f_f c hf
  refine j_iload_n X 1 dX2_at_4 rfl rfl ?_
  refine j_aload_n X 0 dX2_at_5 rfl rfl ?_
  refine j_get (ref := "ProxyVersions$Line") (index := 19) (v := .int (w q0 1)) X (oLn hq0) inX2_at_X2 rfl 1 (by decide) (List.mem_of_getElem? (i := 1) rfl) rfl rfl dX2_at_6 ?_
  refine j_icmp_ge (tgt := 30) X dX2_at_9 (by decide) (fun c => ?_) (fun c => ?_)
  · replace hf := f_t c hf
    refine j_iconst X (v := (0 : Int32)) rfl dX2_at_30 ?_
    exact j_iret X Y (f_s hf) rfl dX2_at_31
  replace hf := f_f c hf
  refine j_iload_n X 1 dX2_at_12 rfl rfl ?_
  refine j_aload_n X 0 dX2_at_13 rfl rfl ?_
  refine j_get (ref := "ProxyVersions$Line") (index := 13) (v := .ref (ad (q0 + 1))) X (oLn hq0) inX2_at_X2 rfl 0 (by decide) (List.mem_of_getElem? (i := 2) rfl) rfl rfl dX2_at_14 ?_
  refine j_alen X 0 rfl (iLn hq0) dX2_at_17 ?_
  refine j_icmp_ge (tgt := 30) X dX2_at_18 (by decide) (fun c => ?_) (fun c => ?_)
  · replace hf := f_t c hf
    refine j_iconst X (v := (0 : Int32)) rfl dX2_at_30 ?_
    exact j_iret X Y (f_s hf) rfl dX2_at_31
  replace hf := f_f c hf
  refine j_aload_n X 0 dX2_at_21 rfl rfl ?_
  refine j_get (ref := "ProxyVersions$Line") (index := 13) (v := .ref (ad (q0 + 1))) X (oLn hq0) inX2_at_X2 rfl 0 (by decide) (List.mem_of_getElem? (i := 2) rfl) rfl rfl dX2_at_22 ?_
  refine j_iload_n X 1 dX2_at_25 rfl rfl ?_
  obtain ⟨hi1, hf⟩ := f_c hf
  refine j_iald X 0 rfl (iLn hq0) hi1 dX2_at_26 ?_
  refine j_goto (tgt := 31) X dX2_at_27 (by decide) ?_
  exact j_iret X Y (f_s hf) rfl dX2_at_31
abbrev rmX2_has : Room := { frames := 0, cells := 0, slots := 0, locals := 0 }
theorem inX2_has_X2 : ∀ w ∈ wsX20, w ∈ wsX2_has := fun _ h => List.mem_cons_of_mem _ (List.mem_append_right _ h)
set_option maxRecDepth 100000 in
set_option maxHeartbeats 4000000 in
theorem t_X2_has_L2 (X : CX p rmX2_has s m args c cX2_has 3 RX2 wsX2_has D (tC cI cL cS) 490 ad) (Y : RX meth (some .boolean)) {q0 : Nat} {x1 : Int32} {w : Wd} {out : Int32} (hq0 : isLn q0) : ∀ (n : Nat) (x2 : Int32), m_X2_has_L2 q0 x1 w n x2 = some out → WJ p l e rmX2_has s m args below meth c (MQ below (QWi D 490 ad (cellC cI cL cS ad) out w) args s 0 0 (AW 490 ad)) 3 D 490 ad (cellC cI cL cS ad) w 2 [(0, .ref (ad q0)), (1, .int x1), (2, .int x2)] [] := by
  intro n
  induction n with
  | zero => intro x2 hf; exact f_n hf
  | succ n ih =>
    intro x2 hf
    rw [m_X2_has_L2] at hf
    refine j_iload_n X 2 dX2_has_2 rfl rfl ?_
    refine j_aload_n X 0 dX2_has_3 rfl rfl ?_
    refine j_get (ref := "ProxyVersions$Line") (index := 19) (v := .int (w q0 1)) X (oLn hq0) inX2_has_X2 rfl 1 (by decide) (List.mem_of_getElem? (i := 1) rfl) rfl rfl dX2_has_4 ?_
    refine j_icmp_ge (tgt := 37) X dX2_has_7 (by decide) (fun c => ?_) (fun c => ?_)
    · replace hf := f_t c hf
      refine j_iconst X (v := (0 : Int32)) rfl dX2_has_37 ?_
      exact j_bret X Y (Eq.trans (by decide : (0 : Int32) &&& 1 = (0 : Int32)) (f_s hf)) rfl dX2_has_38
    replace hf := f_f c hf
    refine j_iload_n X 2 dX2_has_10 rfl rfl ?_
    refine j_aload_n X 0 dX2_has_11 rfl rfl ?_
    refine j_get (ref := "ProxyVersions$Line") (index := 13) (v := .ref (ad (q0 + 1))) X (oLn hq0) inX2_has_X2 rfl 0 (by decide) (List.mem_of_getElem? (i := 2) rfl) rfl rfl dX2_has_12 ?_
    refine j_alen X 0 rfl (iLn hq0) dX2_has_15 ?_
    refine j_icmp_ge (tgt := 37) X dX2_has_16 (by decide) (fun c => ?_) (fun c => ?_)
    · replace hf := f_t c hf
      refine j_iconst X (v := (0 : Int32)) rfl dX2_has_37 ?_
      exact j_bret X Y (Eq.trans (by decide : (0 : Int32) &&& 1 = (0 : Int32)) (f_s hf)) rfl dX2_has_38
    replace hf := f_f c hf
    refine j_aload_n X 0 dX2_has_19 rfl rfl ?_
    refine j_get (ref := "ProxyVersions$Line") (index := 13) (v := .ref (ad (q0 + 1))) X (oLn hq0) inX2_has_X2 rfl 0 (by decide) (List.mem_of_getElem? (i := 2) rfl) rfl rfl dX2_has_20 ?_
    refine j_iload_n X 2 dX2_has_23 rfl rfl ?_
    obtain ⟨hi1, hf⟩ := f_c hf
    refine j_iald X 0 rfl (iLn hq0) hi1 dX2_has_24 ?_
    refine j_iload_n X 1 dX2_has_25 rfl rfl ?_
    refine j_icmp_ne (tgt := 31) X dX2_has_26 (by decide) (fun c => ?_) (fun c => ?_)
    · replace hf := f_t c hf
      refine j_iinc (v := (x2 + (1 : Int32))) (lv' := [(0, .ref (ad q0)), (1, .int x1), (2, .int (x2 + (1 : Int32)))]) X 2 dX2_has_31 rfl rfl (by decide) rfl ?_
      refine j_goto (tgt := 2) X dX2_has_34 (by decide) ?_
      exact ih _ hf
    replace hf := f_fn c hf
    refine j_iconst X (v := (1 : Int32)) rfl dX2_has_29 ?_
    exact j_bret X Y (Eq.trans (by decide : (1 : Int32) &&& 1 = (1 : Int32)) (f_s hf)) rfl dX2_has_30
set_option maxRecDepth 100000 in
set_option maxHeartbeats 4000000 in
theorem c_X2_has (hI : Inj 490 ad) {q0 : Nat} {x1 : Int32} {w : Wd} {out : Int32} (hq0 : isLn q0) (hf : m_X2_has q0 x1 w = some out) : Met l yX2_has wsX2_has rmX2_has (va_Pc [.ref (ad q0), .int x1] (PW D (tC cI cL cS) 490 ad (cellC cI cL cS ad) w)) (QWi D 490 ad (cellC cI cL cS ad) out w) 0 0 (AW 490 ad) := by
  refine mk_met (maxL := 3) (ret := (some .boolean)) RX2 hI (by decide) rfl rfl (Nat.le_of_ble_eq_true rfl) rfl rfl (fun p e s m args below meth c X Y => ?_)
  unfold m_X2_has at hf
  refine j_iconst X (v := (0 : Int32)) rfl dX2_has_0 ?_
  refine j_istore_n (lv' := [(0, .ref (ad q0)), (1, .int x1), (2, .int (0 : Int32))]) X dX2_has_1 rfl (by decide) rfl ?_
  refine t_X2_has_L2 X Y hq0 _ _ hf
abbrev rmX2_append : Room := { frames := 0, cells := 0, slots := 0, locals := 0 }
theorem inX2_append_X2 : ∀ w ∈ wsX20, w ∈ wsX2_append := fun _ h => List.mem_cons_of_mem _ (List.mem_append_right _ h)
set_option maxRecDepth 100000 in
set_option maxHeartbeats 4000000 in
theorem c_X2_append (hI : Inj 490 ad) {q0 : Nat} {x1 : Int32} {w : Wd} {out : Int32 × Wd} (hq0 : isLn q0) (hf : m_X2_append q0 x1 w = some out) : Met l yX2_append wsX2_append rmX2_append (va_Pc [.ref (ad q0), .int x1] (PW D (tC cI cL cS) 490 ad (cellC cI cL cS ad) w)) (QWi D 490 ad (cellC cI cL cS ad) out.1 out.2) 0 0 (AW 490 ad) := by
  refine mk_met (maxL := 2) (ret := (some .boolean)) RX2 hI (by decide) rfl rfl (Nat.le_of_ble_eq_true rfl) rfl rfl (fun p e s m args below meth c X Y => ?_)
  unfold m_X2_append at hf
  refine j_aload_n X 0 dX2_append_0 rfl rfl ?_
  refine j_get (ref := "ProxyVersions$Line") (index := 19) (v := .int (w q0 1)) X (oLn hq0) inX2_append_X2 rfl 1 (by decide) (List.mem_of_getElem? (i := 1) rfl) rfl rfl dX2_append_1 ?_
  refine j_if_lt (tgt := 19) X dX2_append_4 (by decide) (fun c => ?_) (fun c => ?_)
  · replace hf := f_t c hf
    refine j_iconst X (v := (0 : Int32)) rfl dX2_append_19 ?_
    exact j_bret X Y (Eq.trans (by decide : (0 : Int32) &&& 1 = (0 : Int32)) (congrArg Prod.fst (f_s hf))) (congrArg Prod.snd (f_s hf)) dX2_append_20
  replace hf := f_f c hf
  refine j_aload_n X 0 dX2_append_7 rfl rfl ?_
  refine j_get (ref := "ProxyVersions$Line") (index := 19) (v := .int (w q0 1)) X (oLn hq0) inX2_append_X2 rfl 1 (by decide) (List.mem_of_getElem? (i := 1) rfl) rfl rfl dX2_append_8 ?_
  refine j_aload_n X 0 dX2_append_11 rfl rfl ?_
  refine j_get (ref := "ProxyVersions$Line") (index := 13) (v := .ref (ad (q0 + 1))) X (oLn hq0) inX2_append_X2 rfl 0 (by decide) (List.mem_of_getElem? (i := 2) rfl) rfl rfl dX2_append_12 ?_
  refine j_alen X 0 rfl (iLn hq0) dX2_append_15 ?_
  refine j_icmp_lt (tgt := 21) X dX2_append_16 (by decide) (fun c => ?_) (fun c => ?_)
  · replace hf := f_t c hf
    refine j_aload_n X 0 dX2_append_21 rfl rfl ?_
    refine j_get (ref := "ProxyVersions$Line") (index := 13) (v := .ref (ad (q0 + 1))) X (oLn hq0) inX2_append_X2 rfl 0 (by decide) (List.mem_of_getElem? (i := 2) rfl) rfl rfl dX2_append_22 ?_
    refine j_aload_n X 0 dX2_append_25 rfl rfl ?_
    refine j_get (ref := "ProxyVersions$Line") (index := 19) (v := .int (w q0 1)) X (oLn hq0) inX2_append_X2 rfl 1 (by decide) (List.mem_of_getElem? (i := 1) rfl) rfl rfl dX2_append_26 ?_
    refine j_iload_n X 1 dX2_append_29 rfl rfl ?_
    obtain ⟨hi1, hf⟩ := f_c hf
    obtain ⟨w2, ew2, hf⟩ := f_lt hf
    refine j_iast X 0 rfl (iLn hq0) hi1 dX2_append_30 ew2 ?_
    refine j_aload_n X 0 dX2_append_31 rfl rfl ?_
    refine j_dup X rfl dX2_append_32 ?_
    refine j_get (ref := "ProxyVersions$Line") (index := 19) (v := .int (w2 q0 1)) X (oLn hq0) inX2_append_X2 rfl 1 (by decide) (List.mem_of_getElem? (i := 1) rfl) rfl rfl dX2_append_33 ?_
    refine j_iconst X (v := (1 : Int32)) rfl dX2_append_36 ?_
    refine j_iadd X dX2_append_37 ?_
    obtain ⟨w3, ew3, hf⟩ := f_lt hf
    refine j_put (ref := "ProxyVersions$Line") (index := 19)  X (oLn hq0) inX2_append_X2 tyX2_ok nmX2 rfl 1 (by decide) (List.mem_of_getElem? (i := 1) rfl) rfl rfl rfl (Nat.le_of_ble_eq_true rfl) rfl dX2_append_38 ew3 ?_
    refine j_iconst X (v := (1 : Int32)) rfl dX2_append_41 ?_
    exact j_bret X Y (Eq.trans (by decide : (1 : Int32) &&& 1 = (1 : Int32)) (congrArg Prod.fst (f_s hf))) (congrArg Prod.snd (f_s hf)) dX2_append_42
  replace hf := f_f c hf
  refine j_iconst X (v := (0 : Int32)) rfl dX2_append_19 ?_
  exact j_bret X Y (Eq.trans (by decide : (0 : Int32) &&& 1 = (0 : Int32)) (congrArg Prod.fst (f_s hf))) (congrArg Prod.snd (f_s hf)) dX2_append_20
abbrev rmX2_removeAt : Room := { frames := 0, cells := 0, slots := 0, locals := 0 }
theorem inX2_removeAt_X2 : ∀ w ∈ wsX20, w ∈ wsX2_removeAt := fun _ h => List.mem_cons_of_mem _ (List.mem_append_right _ h)
set_option maxRecDepth 100000 in
set_option maxHeartbeats 4000000 in
theorem t_X2_removeAt_L17 (X : CX p rmX2_removeAt s m args c cX2_removeAt 3 RX2 wsX2_removeAt D (tC cI cL cS) 490 ad) (Y : RX meth none) {q0 : Nat} {kx54 : Wd → Option (Wd)} {out : Wd} (hq0 : isLn q0) (hk_kx54 : ∀  (v : Wd), kx54 v = some out → WJ p l e rmX2_removeAt s m args below meth c (MQ below (QWv D 490 ad (cellC cI cL cS ad) out) args s 0 0 (AW 490 ad)) 3 D 490 ad (cellC cI cL cS ad) v 54 [(0, .ref (ad q0))] []) : ∀ (n : Nat) (x2 : Int32) (w : Wd), m_X2_removeAt_L17 q0 kx54 n x2 w = some out → WJ p l e rmX2_removeAt s m args below meth c (MQ below (QWv D 490 ad (cellC cI cL cS ad) out) args s 0 0 (AW 490 ad)) 3 D 490 ad (cellC cI cL cS ad) w 17 [(0, .ref (ad q0)), (2, .int x2)] [] := by
  intro n
  induction n with
  | zero => intro x2 w hf; exact f_n hf
  | succ n ih =>
    intro x2 w hf
    rw [m_X2_removeAt_L17] at hf
    refine j_iload_n X 1 dX2_removeAt_17 rfl rfl ?_
    refine j_aload_n X 0 dX2_removeAt_18 rfl rfl ?_
    refine j_get (ref := "ProxyVersions$Line") (index := 19) (v := .int (w q0 1)) X (oLn hq0) inX2_removeAt_X2 rfl 1 (by decide) (List.mem_of_getElem? (i := 1) rfl) rfl rfl dX2_removeAt_19 ?_
    refine j_icmp_ge (tgt := 54) X dX2_removeAt_22 (by decide) (fun c => ?_) (fun c => ?_)
    · replace hf := f_t c hf
      refine j_sub [0] rfl ?_
      exact hk_kx54 _ hf
    replace hf := f_f c hf
    refine j_iload_n X 1 dX2_removeAt_25 rfl rfl ?_
    refine j_aload_n X 0 dX2_removeAt_26 rfl rfl ?_
    refine j_get (ref := "ProxyVersions$Line") (index := 13) (v := .ref (ad (q0 + 1))) X (oLn hq0) inX2_removeAt_X2 rfl 0 (by decide) (List.mem_of_getElem? (i := 2) rfl) rfl rfl dX2_removeAt_27 ?_
    refine j_alen X 0 rfl (iLn hq0) dX2_removeAt_30 ?_
    refine j_icmp_ge (tgt := 54) X dX2_removeAt_31 (by decide) (fun c => ?_) (fun c => ?_)
    · replace hf := f_t c hf
      refine j_sub [0] rfl ?_
      exact hk_kx54 _ hf
    replace hf := f_f c hf
    refine j_aload_n X 0 dX2_removeAt_34 rfl rfl ?_
    refine j_get (ref := "ProxyVersions$Line") (index := 13) (v := .ref (ad (q0 + 1))) X (oLn hq0) inX2_removeAt_X2 rfl 0 (by decide) (List.mem_of_getElem? (i := 2) rfl) rfl rfl dX2_removeAt_35 ?_
    refine j_iload_n X 1 dX2_removeAt_38 rfl rfl ?_
    refine j_iconst X (v := (1 : Int32)) rfl dX2_removeAt_39 ?_
    refine j_isub X dX2_removeAt_40 ?_
    refine j_aload_n X 0 dX2_removeAt_41 rfl rfl ?_
    refine j_get (ref := "ProxyVersions$Line") (index := 13) (v := .ref (ad (q0 + 1))) X (oLn hq0) inX2_removeAt_X2 rfl 0 (by decide) (List.mem_of_getElem? (i := 2) rfl) rfl rfl dX2_removeAt_42 ?_
    refine j_iload_n X 1 dX2_removeAt_45 rfl rfl ?_
    obtain ⟨hi1, hf⟩ := f_c hf
    refine j_iald X 0 rfl (iLn hq0) hi1 dX2_removeAt_46 ?_
    obtain ⟨hi2, hf⟩ := f_c hf
    obtain ⟨w3, ew3, hf⟩ := f_lt hf
    refine j_iast X 0 rfl (iLn hq0) hi2 dX2_removeAt_47 ew3 ?_
    refine j_iinc (v := (x2 + (1 : Int32))) (lv' := [(0, .ref (ad q0)), (2, .int (x2 + (1 : Int32)))]) X 1 dX2_removeAt_48 rfl rfl (by decide) rfl ?_
    refine j_goto (tgt := 17) X dX2_removeAt_51 (by decide) ?_
    exact ih _ _ hf
set_option maxRecDepth 100000 in
set_option maxHeartbeats 4000000 in
theorem t_X2_removeAt_j54 (X : CX p rmX2_removeAt s m args c cX2_removeAt 3 RX2 wsX2_removeAt D (tC cI cL cS) 490 ad) (Y : RX meth none) {q0 : Nat} {w : Wd} {out : Wd} (hq0 : isLn q0) (hf : m_X2_removeAt_j54 q0 w = some out) : WJ p l e rmX2_removeAt s m args below meth c (MQ below (QWv D 490 ad (cellC cI cL cS ad) out) args s 0 0 (AW 490 ad)) 3 D 490 ad (cellC cI cL cS ad) w 54 [(0, .ref (ad q0))] [] := by
  unfold m_X2_removeAt_j54 at hf
  refine j_aload_n X 0 dX2_removeAt_54 rfl rfl ?_
  refine j_dup X rfl dX2_removeAt_55 ?_
  refine j_get (ref := "ProxyVersions$Line") (index := 19) (v := .int (w q0 1)) X (oLn hq0) inX2_removeAt_X2 rfl 1 (by decide) (List.mem_of_getElem? (i := 1) rfl) rfl rfl dX2_removeAt_56 ?_
  refine j_iconst X (v := (1 : Int32)) rfl dX2_removeAt_59 ?_
  refine j_isub X dX2_removeAt_60 ?_
  obtain ⟨w1, ew1, hf⟩ := f_lt hf
  refine j_put (ref := "ProxyVersions$Line") (index := 19)  X (oLn hq0) inX2_removeAt_X2 tyX2_ok nmX2 rfl 1 (by decide) (List.mem_of_getElem? (i := 1) rfl) rfl rfl rfl (Nat.le_of_ble_eq_true rfl) rfl dX2_removeAt_61 ew1 ?_
  exact j_vret X Y (f_s hf) dX2_removeAt_64
set_option maxRecDepth 100000 in
set_option maxHeartbeats 4000000 in
theorem c_X2_removeAt (hI : Inj 490 ad) {q0 : Nat} {x1 : Int32} {w : Wd} {out : Wd} (hq0 : isLn q0) (hf : m_X2_removeAt q0 x1 w = some out) : Met l yX2_removeAt wsX2_removeAt rmX2_removeAt (va_Pc [.ref (ad q0), .int x1] (PW D (tC cI cL cS) 490 ad (cellC cI cL cS ad) w)) (QWv D 490 ad (cellC cI cL cS ad) out) 0 0 (AW 490 ad) := by
  refine mk_met (maxL := 3) (ret := none) RX2 hI (by decide) rfl rfl (Nat.le_of_ble_eq_true rfl) rfl rfl (fun p e s m args below meth c X Y => ?_)
  unfold m_X2_removeAt at hf
  refine j_iload_n X 1 dX2_removeAt_0 rfl rfl ?_
  refine j_if_lt (tgt := 12) X dX2_removeAt_1 (by decide) (fun c => ?_) (fun c => ?_)
  · replace hf := f_t c hf
    exact j_vret X Y (f_s hf) dX2_removeAt_12
  replace hf := f_f c hf
  refine j_iload_n X 1 dX2_removeAt_4 rfl rfl ?_
  refine j_aload_n X 0 dX2_removeAt_5 rfl rfl ?_
  refine j_get (ref := "ProxyVersions$Line") (index := 19) (v := .int (w q0 1)) X (oLn hq0) inX2_removeAt_X2 rfl 1 (by decide) (List.mem_of_getElem? (i := 1) rfl) rfl rfl dX2_removeAt_6 ?_
  refine j_icmp_lt (tgt := 13) X dX2_removeAt_9 (by decide) (fun c => ?_) (fun c => ?_)
  · replace hf := f_t c hf
    refine j_iload_n X 1 dX2_removeAt_13 rfl rfl ?_
    refine j_iconst X (v := (1 : Int32)) rfl dX2_removeAt_14 ?_
    refine j_iadd X dX2_removeAt_15 ?_
    obtain ⟨x2_1, ex2_1, hf⟩ := f_lt hf
    refine j_top ex2_1 ?_
    refine j_istore_n (lv' := [(0, .ref (ad q0)), (1, .int x1), (2, .int x2_1)]) X dX2_removeAt_16 rfl (by decide) rfl ?_
    refine j_sub [0, 2] rfl ?_
    refine t_X2_removeAt_L17 X Y hq0 ?_ _ _ _ hf
    intro w2 hf
    refine j_sub [0] rfl ?_
    exact t_X2_removeAt_j54 X Y hq0 hf
  replace hf := f_f c hf
  exact j_vret X Y (f_s hf) dX2_removeAt_12
abbrev rmX2_clear : Room := { frames := 0, cells := 0, slots := 0, locals := 0 }
theorem inX2_clear_X2 : ∀ w ∈ wsX20, w ∈ wsX2_clear := fun _ h => List.mem_cons_of_mem _ (List.mem_append_right _ h)
set_option maxRecDepth 100000 in
set_option maxHeartbeats 4000000 in
theorem c_X2_clear (hI : Inj 490 ad) {q0 : Nat} {w : Wd} {out : Wd} (hq0 : isLn q0) (hf : m_X2_clear q0 w = some out) : Met l yX2_clear wsX2_clear rmX2_clear (va_Pc [.ref (ad q0)] (PW D (tC cI cL cS) 490 ad (cellC cI cL cS ad) w)) (QWv D 490 ad (cellC cI cL cS ad) out) 0 0 (AW 490 ad) := by
  refine mk_met (maxL := 1) (ret := none) RX2 hI (by decide) rfl rfl (Nat.le_of_ble_eq_true rfl) rfl rfl (fun p e s m args below meth c X Y => ?_)
  unfold m_X2_clear at hf
  refine j_aload_n X 0 dX2_clear_0 rfl rfl ?_
  refine j_iconst X (v := (0 : Int32)) rfl dX2_clear_1 ?_
  obtain ⟨w1, ew1, hf⟩ := f_lt hf
  refine j_put (ref := "ProxyVersions$Line") (index := 19)  X (oLn hq0) inX2_clear_X2 tyX2_ok nmX2 rfl 1 (by decide) (List.mem_of_getElem? (i := 1) rfl) rfl rfl rfl (Nat.le_of_ble_eq_true rfl) rfl dX2_clear_2 ew1 ?_
  exact j_vret X Y (f_s hf) dX2_clear_5
abbrev rmX6_with : Room := { frames := 0, cells := 0, slots := 0, locals := 0 }
set_option maxRecDepth 100000 in
set_option maxHeartbeats 4000000 in
theorem c_X6_with (hI : Inj 490 ad) {x0 : Int32} {x1 : Int32} {w : Wd} {out : Int32} (hf : m_X6_with x0 x1 = some out) : Met l yX6_with wsX6_with rmX6_with (va_Pc [.int x0, .int x1] (PW D (tC cI cL cS) 490 ad (cellC cI cL cS ad) w)) (QWi D 490 ad (cellC cI cL cS ad) out w) 0 0 (AW 490 ad) := by
  refine mk_met (maxL := 2) (ret := (some .int)) RX6 hI (by decide) rfl rfl (Nat.le_of_ble_eq_true rfl) rfl rfl (fun p e s m args below meth c X Y => ?_)
  unfold m_X6_with at hf
  refine j_iload_n X 1 dX6_with_0 rfl rfl ?_
  refine j_iconst X (v := (1 : Int32)) rfl dX6_with_1 ?_
  refine j_icmp_lt (tgt := 21) X dX6_with_2 (by decide) (fun c => ?_) (fun c => ?_)
  · replace hf := f_t c hf
    refine j_iload_n X 0 dX6_with_21 rfl rfl ?_
    exact j_iret X Y (f_s hf) rfl dX6_with_22
  replace hf := f_f c hf
  refine j_iload_n X 1 dX6_with_5 rfl rfl ?_
  refine j_bipush X (v := (24 : Int32)) (by decide) dX6_with_6 ?_
  refine j_icmp_gt (tgt := 21) X dX6_with_8 (by decide) (fun c => ?_) (fun c => ?_)
  · replace hf := f_t c hf
    refine j_iload_n X 0 dX6_with_21 rfl rfl ?_
    exact j_iret X Y (f_s hf) rfl dX6_with_22
  replace hf := f_f c hf
  refine j_iload_n X 0 dX6_with_11 rfl rfl ?_
  refine j_iconst X (v := (1 : Int32)) rfl dX6_with_12 ?_
  refine j_iload_n X 1 dX6_with_13 rfl rfl ?_
  refine j_iconst X (v := (1 : Int32)) rfl dX6_with_14 ?_
  refine j_isub X dX6_with_15 ?_
  refine j_ishl X dX6_with_16 ?_
  refine j_ior X dX6_with_17 ?_
  refine j_goto (tgt := 22) X dX6_with_18 (by decide) ?_
  exact j_iret X Y (f_s hf) rfl dX6_with_22
abbrev rmJ6_bitCount_0f7a4 : Room := { frames := 0, cells := 0, slots := 0, locals := 0 }
set_option maxRecDepth 100000 in
set_option maxHeartbeats 4000000 in
theorem c_J6_bitCount_0f7a4 (hI : Inj 490 ad) {x0 : Int32} {w : Wd} {out : Int32} (hf : m_J6_bitCount_0f7a4 x0 = some out) : Met l yJ6_bitCount_0f7a4 wsJ6_bitCount_0f7a4 rmJ6_bitCount_0f7a4 (va_Pc [.int x0] (PW D (tC cI cL cS) 490 ad (cellC cI cL cS ad) w)) (QWi D 490 ad (cellC cI cL cS ad) out w) 0 0 (AW 490 ad) := by
  refine mk_metF (maxL := 1) (ret := (some .int)) RJ6 hI (by decide +kernel) rfl rfl (Nat.le_of_ble_eq_true rfl) rfl rfl (fun p e s m args below meth c X Y => ?_)
  unfold m_J6_bitCount_0f7a4 at hf
  refine j_iload_n X 0 dJ6_bitCount_0f7a4_0 rfl rfl ?_
  refine j_iload_n X 0 dJ6_bitCount_0f7a4_1 rfl rfl ?_
  refine j_iconst X (v := (1 : Int32)) rfl dJ6_bitCount_0f7a4_2 ?_
  refine j_iushr X rfl dJ6_bitCount_0f7a4_3 ?_
  refine j_ldcw X (v := (1431655765 : Int32)) (List.mem_of_getElem? (i := 1) rfl) dJ6_bitCount_0f7a4_4 ?_
  refine j_iand X dJ6_bitCount_0f7a4_7 ?_
  refine j_isub X dJ6_bitCount_0f7a4_8 ?_
  obtain ⟨x0_1, ex0_1, hf⟩ := f_lt hf
  refine j_top ex0_1 ?_
  refine j_istore_n (lv' := [(0, .int x0_1)]) X dJ6_bitCount_0f7a4_9 rfl (by decide) rfl ?_
  refine j_iload_n X 0 dJ6_bitCount_0f7a4_10 rfl rfl ?_
  refine j_ldcw X (v := (858993459 : Int32)) (List.mem_of_getElem? (i := 2) rfl) dJ6_bitCount_0f7a4_11 ?_
  refine j_iand X dJ6_bitCount_0f7a4_14 ?_
  refine j_iload_n X 0 dJ6_bitCount_0f7a4_15 rfl rfl ?_
  refine j_iconst X (v := (2 : Int32)) rfl dJ6_bitCount_0f7a4_16 ?_
  refine j_iushr X rfl dJ6_bitCount_0f7a4_17 ?_
  refine j_ldcw X (v := (858993459 : Int32)) (List.mem_of_getElem? (i := 2) rfl) dJ6_bitCount_0f7a4_18 ?_
  refine j_iand X dJ6_bitCount_0f7a4_21 ?_
  refine j_iadd X dJ6_bitCount_0f7a4_22 ?_
  obtain ⟨x0_2, ex0_2, hf⟩ := f_lt hf
  refine j_top ex0_2 ?_
  refine j_istore_n (lv' := [(0, .int x0_2)]) X dJ6_bitCount_0f7a4_23 rfl (by decide) rfl ?_
  refine j_iload_n X 0 dJ6_bitCount_0f7a4_24 rfl rfl ?_
  refine j_iload_n X 0 dJ6_bitCount_0f7a4_25 rfl rfl ?_
  refine j_iconst X (v := (4 : Int32)) rfl dJ6_bitCount_0f7a4_26 ?_
  refine j_iushr X rfl dJ6_bitCount_0f7a4_27 ?_
  refine j_iadd X dJ6_bitCount_0f7a4_28 ?_
  refine j_ldcw X (v := (252645135 : Int32)) (List.mem_of_getElem? (i := 3) rfl) dJ6_bitCount_0f7a4_29 ?_
  refine j_iand X dJ6_bitCount_0f7a4_32 ?_
  obtain ⟨x0_3, ex0_3, hf⟩ := f_lt hf
  refine j_top ex0_3 ?_
  refine j_istore_n (lv' := [(0, .int x0_3)]) X dJ6_bitCount_0f7a4_33 rfl (by decide) rfl ?_
  refine j_iload_n X 0 dJ6_bitCount_0f7a4_34 rfl rfl ?_
  refine j_iload_n X 0 dJ6_bitCount_0f7a4_35 rfl rfl ?_
  refine j_bipush X (v := (8 : Int32)) (by decide) dJ6_bitCount_0f7a4_36 ?_
  refine j_iushr X rfl dJ6_bitCount_0f7a4_38 ?_
  refine j_iadd X dJ6_bitCount_0f7a4_39 ?_
  obtain ⟨x0_4, ex0_4, hf⟩ := f_lt hf
  refine j_top ex0_4 ?_
  refine j_istore_n (lv' := [(0, .int x0_4)]) X dJ6_bitCount_0f7a4_40 rfl (by decide) rfl ?_
  refine j_iload_n X 0 dJ6_bitCount_0f7a4_41 rfl rfl ?_
  refine j_iload_n X 0 dJ6_bitCount_0f7a4_42 rfl rfl ?_
  refine j_bipush X (v := (16 : Int32)) (by decide) dJ6_bitCount_0f7a4_43 ?_
  refine j_iushr X rfl dJ6_bitCount_0f7a4_45 ?_
  refine j_iadd X dJ6_bitCount_0f7a4_46 ?_
  obtain ⟨x0_5, ex0_5, hf⟩ := f_lt hf
  refine j_top ex0_5 ?_
  refine j_istore_n (lv' := [(0, .int x0_5)]) X dJ6_bitCount_0f7a4_47 rfl (by decide) rfl ?_
  refine j_iload_n X 0 dJ6_bitCount_0f7a4_48 rfl rfl ?_
  refine j_bipush X (v := (63 : Int32)) (by decide) dJ6_bitCount_0f7a4_49 ?_
  refine j_iand X dJ6_bitCount_0f7a4_51 ?_
  exact j_iret X Y (f_s hf) rfl dJ6_bitCount_0f7a4_52
abbrev rmX6_rangesIn : Room := { frames := 1, cells := 0, slots := 0, locals := 20 }
set_option maxRecDepth 100000 in
set_option maxHeartbeats 4000000 in
theorem c_X6_rangesIn (hI : Inj 490 ad) {x0 : Int32} {w : Wd} {out : Int32} (hf : m_X6_rangesIn x0 = some out) : Met l yX6_rangesIn wsX6_rangesIn rmX6_rangesIn (va_Pc [.int x0] (PW D (tC cI cL cS) 490 ad (cellC cI cL cS ad) w)) (QWi D 490 ad (cellC cI cL cS ad) out w) 0 0 (AW 490 ad) := by
  refine mk_met (maxL := 1) (ret := (some .int)) RX6 hI (by decide) rfl rfl (Nat.le_of_ble_eq_true rfl) rfl rfl (fun p e s m args below meth c X Y => ?_)
  unfold m_X6_rangesIn at hf
  refine j_iload_n X 0 dX6_rangesIn_0 rfl rfl ?_
  refine j_iconst X (v := (-1 : Int32)) rfl dX6_rangesIn_1 ?_
  refine j_ixor X dX6_rangesIn_2 ?_
  refine j_iload_n X 0 dX6_rangesIn_3 rfl rfl ?_
  refine j_iconst X (v := (1 : Int32)) rfl dX6_rangesIn_4 ?_
  refine j_ishr X dX6_rangesIn_5 ?_
  refine j_iand X dX6_rangesIn_6 ?_
  obtain ⟨o1, ho1, hf⟩ := f_bd hf
  refine j_callSi X [.int ((x0 ^^^ (-1 : Int32)) &&& (x0 >>> ((1 : Int32) &&& 31)))] (c_J6_bitCount_0f7a4 X.2.2.2.2.2.2.2 ho1) (va_cwS 1 X.2.2.2.2.1 gX6_rangesIn_J6_bitCount_0f7a4 rfl rfl rfl (by decide +kernel) ⟨Nat.le_of_ble_eq_true rfl, Nat.le_of_ble_eq_true rfl⟩) rfl rfl (Nat.le_of_ble_eq_true rfl) dX6_rangesIn_7 ?_
  exact j_iret X Y (f_s hf) rfl dX6_rangesIn_10
abbrev rmX6_greatest : Room := { frames := 0, cells := 0, slots := 0, locals := 0 }
set_option maxRecDepth 100000 in
set_option maxHeartbeats 4000000 in
theorem t_X6_greatest_L3 (X : CX p rmX6_greatest s m args c cX6_greatest 2 RX6 wsX6_greatest D (tC cI cL cS) 490 ad) (Y : RX meth (some .int)) {x0 : Int32} {w : Wd} {out : Int32} : ∀ (n : Nat) (x1 : Int32), m_X6_greatest_L3 x0 n x1 = some out → WJ p l e rmX6_greatest s m args below meth c (MQ below (QWi D 490 ad (cellC cI cL cS ad) out w) args s 0 0 (AW 490 ad)) 2 D 490 ad (cellC cI cL cS ad) w 3 [(0, .int x0), (1, .int x1)] [] := by
  intro n
  induction n with
  | zero => intro x1 hf; exact f_n hf
  | succ n ih =>
    intro x1 hf
    rw [m_X6_greatest_L3] at hf
    refine j_iload_n X 1 dX6_greatest_3 rfl rfl ?_
    refine j_if_le (tgt := 23) X dX6_greatest_4 (by decide) (fun c => ?_) (fun c => ?_)
    · replace hf := f_t c hf
      refine j_iload_n X 1 dX6_greatest_23 rfl rfl ?_
      exact j_iret X Y (f_s hf) rfl dX6_greatest_24
    replace hf := f_f c hf
    refine j_iload_n X 0 dX6_greatest_7 rfl rfl ?_
    refine j_iload_n X 1 dX6_greatest_8 rfl rfl ?_
    refine j_iconst X (v := (1 : Int32)) rfl dX6_greatest_9 ?_
    refine j_isub X dX6_greatest_10 ?_
    refine j_ishr X dX6_greatest_11 ?_
    refine j_iconst X (v := (1 : Int32)) rfl dX6_greatest_12 ?_
    refine j_iand X dX6_greatest_13 ?_
    refine j_if_ne (tgt := 23) X dX6_greatest_14 (by decide) (fun c => ?_) (fun c => ?_)
    · replace hf := f_t c hf
      refine j_iload_n X 1 dX6_greatest_23 rfl rfl ?_
      exact j_iret X Y (f_s hf) rfl dX6_greatest_24
    replace hf := f_fn c hf
    refine j_iinc (v := (x1 + (-1 : Int32))) (lv' := [(0, .int x0), (1, .int (x1 + (-1 : Int32)))]) X 1 dX6_greatest_17 rfl rfl (by decide) rfl ?_
    refine j_goto (tgt := 3) X dX6_greatest_20 (by decide) ?_
    exact ih _ hf
set_option maxRecDepth 100000 in
set_option maxHeartbeats 4000000 in
theorem c_X6_greatest (hI : Inj 490 ad) {x0 : Int32} {w : Wd} {out : Int32} (hf : m_X6_greatest x0 = some out) : Met l yX6_greatest wsX6_greatest rmX6_greatest (va_Pc [.int x0] (PW D (tC cI cL cS) 490 ad (cellC cI cL cS ad) w)) (QWi D 490 ad (cellC cI cL cS ad) out w) 0 0 (AW 490 ad) := by
  refine mk_met (maxL := 2) (ret := (some .int)) RX6 hI (by decide) rfl rfl (Nat.le_of_ble_eq_true rfl) rfl rfl (fun p e s m args below meth c X Y => ?_)
  unfold m_X6_greatest at hf
  refine j_bipush X (v := (24 : Int32)) (by decide) dX6_greatest_0 ?_
  refine j_istore_n (lv' := [(0, .int x0), (1, .int (24 : Int32))]) X dX6_greatest_2 rfl (by decide) rfl ?_
  refine t_X6_greatest_L3 X Y _ _ hf
abbrev rmX6_sizeOf : Room := { frames := 1, cells := 0, slots := 0, locals := 20 }
set_option maxRecDepth 100000 in
set_option maxHeartbeats 4000000 in
theorem c_X6_sizeOf (hI : Inj 490 ad) {x0 : Int32} {w : Wd} {out : Int32} (hf : m_X6_sizeOf x0 = some out) : Met l yX6_sizeOf wsX6_sizeOf rmX6_sizeOf (va_Pc [.int x0] (PW D (tC cI cL cS) 490 ad (cellC cI cL cS ad) w)) (QWi D 490 ad (cellC cI cL cS ad) out w) 0 0 (AW 490 ad) := by
  refine mk_met (maxL := 1) (ret := (some .int)) RX6 hI (by decide) rfl rfl (Nat.le_of_ble_eq_true rfl) rfl rfl (fun p e s m args below meth c X Y => ?_)
  unfold m_X6_sizeOf at hf
  refine j_iload_n X 0 dX6_sizeOf_0 rfl rfl ?_
  obtain ⟨o1, ho1, hf⟩ := f_bd hf
  refine j_callSi X [.int x0] (c_J6_bitCount_0f7a4 X.2.2.2.2.2.2.2 ho1) (va_cwS 1 X.2.2.2.2.1 gX6_sizeOf_J6_bitCount_0f7a4 rfl rfl rfl (by decide +kernel) ⟨Nat.le_of_ble_eq_true rfl, Nat.le_of_ble_eq_true rfl⟩) rfl rfl (Nat.le_of_ble_eq_true rfl) dX6_sizeOf_1 ?_
  exact j_iret X Y (f_s hf) rfl dX6_sizeOf_4
abbrev rmX6_exceptionsIn : Room := { frames := 2, cells := 0, slots := 0, locals := 40 }
set_option maxRecDepth 100000 in
set_option maxHeartbeats 4000000 in
theorem c_X6_exceptionsIn (hI : Inj 490 ad) {x0 : Int32} {w : Wd} {out : Int32} (hf : m_X6_exceptionsIn x0 = some out) : Met l yX6_exceptionsIn wsX6_exceptionsIn rmX6_exceptionsIn (va_Pc [.int x0] (PW D (tC cI cL cS) 490 ad (cellC cI cL cS ad) w)) (QWi D 490 ad (cellC cI cL cS ad) out w) 0 0 (AW 490 ad) := by
  refine mk_met (maxL := 1) (ret := (some .int)) RX6 hI (by decide) rfl rfl (Nat.le_of_ble_eq_true rfl) rfl rfl (fun p e s m args below meth c X Y => ?_)
  unfold m_X6_exceptionsIn at hf
  refine j_iload_n X 0 dX6_exceptionsIn_0 rfl rfl ?_
  obtain ⟨o1, ho1, hf⟩ := f_bd hf
  refine j_callSi X [.int x0] (c_X6_greatest X.2.2.2.2.2.2.2 ho1) (va_cwS 1 X.2.2.2.2.1 gX6_exceptionsIn_X6_greatest rfl rfl rfl (by decide +kernel) ⟨Nat.le_of_ble_eq_true rfl, Nat.le_of_ble_eq_true rfl⟩) rfl rfl (Nat.le_of_ble_eq_true rfl) dX6_exceptionsIn_1 ?_
  refine j_iload_n X 0 dX6_exceptionsIn_4 rfl rfl ?_
  obtain ⟨o2, ho2, hf⟩ := f_bd hf
  refine j_callSi X [.int x0] (c_X6_sizeOf X.2.2.2.2.2.2.2 ho2) (va_cwS 1 X.2.2.2.2.1 gX6_exceptionsIn_X6_sizeOf rfl rfl rfl (by decide +kernel) ⟨Nat.le_of_ble_eq_true rfl, Nat.le_of_ble_eq_true rfl⟩) rfl rfl (Nat.le_of_ble_eq_true rfl) dX6_exceptionsIn_5 ?_
  refine j_isub X dX6_exceptionsIn_8 ?_
  exact j_iret X Y (f_s hf) rfl dX6_exceptionsIn_9
abbrev rmX6_exceptionAt : Room := { frames := 1, cells := 0, slots := 0, locals := 21 }
set_option maxRecDepth 100000 in
set_option maxHeartbeats 4000000 in
theorem t_X6_exceptionAt_j28 (X : CX p rmX6_exceptionAt s m args c cX6_exceptionAt 4 RX6 wsX6_exceptionAt D (tC cI cL cS) 490 ad) (Y : RX meth (some .int)) {x0 : Int32} {x1 : Int32} {x2 : Int32} {x3 : Int32} {w : Wd} {kc : Int32 → Int32 → Option (Int32)} {out : Int32} (hf : m_X6_exceptionAt_j28 x0 x1 x2 x3 kc = some out) (hk_kc : ∀ (y2 : Int32) (y3 : Int32), kc y2 y3 = some out → WJ p l e rmX6_exceptionAt s m args below meth c (MQ below (QWi D 490 ad (cellC cI cL cS ad) out w) args s 0 0 (AW 490 ad)) 4 D 490 ad (cellC cI cL cS ad) w 4 [(0, .int x0), (1, .int x1), (2, .int y2), (3, .int y3)] []) : WJ p l e rmX6_exceptionAt s m args below meth c (MQ below (QWi D 490 ad (cellC cI cL cS ad) out w) args s 0 0 (AW 490 ad)) 4 D 490 ad (cellC cI cL cS ad) w 28 [(0, .int x0), (1, .int x1), (2, .int x2), (3, .int x3)] [] := by
  unfold m_X6_exceptionAt_j28 at hf
  refine j_iinc (v := (x3 + (1 : Int32))) (lv' := [(0, .int x0), (1, .int x1), (2, .int x2), (3, .int (x3 + (1 : Int32)))]) X 3 dX6_exceptionAt_28 rfl rfl (by decide) rfl ?_
  refine j_goto (tgt := 4) X dX6_exceptionAt_31 (by decide) ?_
  exact hk_kc _ _ hf
set_option maxRecDepth 100000 in
set_option maxHeartbeats 4000000 in
theorem t_X6_exceptionAt_L4 (X : CX p rmX6_exceptionAt s m args c cX6_exceptionAt 4 RX6 wsX6_exceptionAt D (tC cI cL cS) 490 ad) (Y : RX meth (some .int)) {x0 : Int32} {x1 : Int32} {w : Wd} {out : Int32} : ∀ (n : Nat) (x2 : Int32) (x3 : Int32), m_X6_exceptionAt_L4 x0 x1 n x2 x3 = some out → WJ p l e rmX6_exceptionAt s m args below meth c (MQ below (QWi D 490 ad (cellC cI cL cS ad) out w) args s 0 0 (AW 490 ad)) 4 D 490 ad (cellC cI cL cS ad) w 4 [(0, .int x0), (1, .int x1), (2, .int x2), (3, .int x3)] [] := by
  intro n
  induction n with
  | zero => intro x2 x3 hf; exact f_n hf
  | succ n ih =>
    intro x2 x3 hf
    rw [m_X6_exceptionAt_L4] at hf
    refine j_iload_n X 3 dX6_exceptionAt_4 rfl rfl ?_
    refine j_bipush X (v := (24 : Int32)) (by decide) dX6_exceptionAt_5 ?_
    refine j_icmp_gt (tgt := 34) X dX6_exceptionAt_7 (by decide) (fun c => ?_) (fun c => ?_)
    · replace hf := f_t c hf
      refine j_iconst X (v := (0 : Int32)) rfl dX6_exceptionAt_34 ?_
      exact j_iret X Y (f_s hf) rfl dX6_exceptionAt_35
    replace hf := f_f c hf
    refine j_iload_n X 0 dX6_exceptionAt_10 rfl rfl ?_
    refine j_iload_n X 3 dX6_exceptionAt_11 rfl rfl ?_
    obtain ⟨o1, ho1, hf⟩ := f_bd hf
    refine j_callSi X [.int x0, .int x3] (c_X6_contains X.2.2.2.2.2.2.2 ho1) (va_cwS 2 X.2.2.2.2.1 gX6_exceptionAt_X6_contains rfl rfl rfl (by decide +kernel) ⟨Nat.le_of_ble_eq_true rfl, Nat.le_of_ble_eq_true rfl⟩) rfl rfl (Nat.le_of_ble_eq_true rfl) dX6_exceptionAt_12 ?_
    refine j_if_ne (tgt := 28) X dX6_exceptionAt_15 (by decide) (fun c => ?_) (fun c => ?_)
    · replace hf := f_t c hf
      exact t_X6_exceptionAt_j28 X Y hf ih
    replace hf := f_fn c hf
    refine j_iload_n X 2 dX6_exceptionAt_18 rfl rfl ?_
    refine j_iload_n X 1 dX6_exceptionAt_19 rfl rfl ?_
    refine j_icmp_ne (tgt := 25) X dX6_exceptionAt_20 (by decide) (fun c => ?_) (fun c => ?_)
    · replace hf := f_t c hf
      refine j_iinc (v := (x2 + (1 : Int32))) (lv' := [(0, .int x0), (1, .int x1), (2, .int (x2 + (1 : Int32))), (3, .int x3)]) X 2 dX6_exceptionAt_25 rfl rfl (by decide) rfl ?_
      exact t_X6_exceptionAt_j28 X Y hf ih
    replace hf := f_fn c hf
    refine j_iload_n X 3 dX6_exceptionAt_23 rfl rfl ?_
    exact j_iret X Y (f_s hf) rfl dX6_exceptionAt_24
set_option maxRecDepth 100000 in
set_option maxHeartbeats 4000000 in
theorem c_X6_exceptionAt (hI : Inj 490 ad) {x0 : Int32} {x1 : Int32} {w : Wd} {out : Int32} (hf : m_X6_exceptionAt x0 x1 = some out) : Met l yX6_exceptionAt wsX6_exceptionAt rmX6_exceptionAt (va_Pc [.int x0, .int x1] (PW D (tC cI cL cS) 490 ad (cellC cI cL cS ad) w)) (QWi D 490 ad (cellC cI cL cS ad) out w) 0 0 (AW 490 ad) := by
  refine mk_met (maxL := 4) (ret := (some .int)) RX6 hI (by decide) rfl rfl (Nat.le_of_ble_eq_true rfl) rfl rfl (fun p e s m args below meth c X Y => ?_)
  unfold m_X6_exceptionAt at hf
  refine j_iconst X (v := (0 : Int32)) rfl dX6_exceptionAt_0 ?_
  refine j_istore_n (lv' := [(0, .int x0), (1, .int x1), (2, .int (0 : Int32))]) X dX6_exceptionAt_1 rfl (by decide) rfl ?_
  refine j_iconst X (v := (1 : Int32)) rfl dX6_exceptionAt_2 ?_
  refine j_istore_n (lv' := [(0, .int x0), (1, .int x1), (2, .int (0 : Int32)), (3, .int (1 : Int32))]) X dX6_exceptionAt_3 rfl (by decide) rfl ?_
  refine t_X6_exceptionAt_L4 X Y _ _ _ hf
end WALK10
