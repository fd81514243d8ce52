/-! ===== the bytecode does what the model says (printed by wip/whole/tools/gen.py) ===== -/
section WALK11
variable {p : Program} {l : Launch} {e : Env} {s : State} {m : MethodId} {args : Array Value} {below : List Frame} {meth : Method} {c : Code} {D : va_G} {cI cL cS : ClassId} {ad : Nat → Nat}
abbrev rmX5_knownOf : Room := { frames := 0, cells := 0, slots := 0, locals := 0 }
theorem inX5_knownOf_X5 : ∀ w ∈ wsX50, w ∈ wsX5_knownOf := fun _ h => List.mem_cons_of_mem _ (List.mem_append_right _ h)
set_option maxRecDepth 100000 in
set_option maxHeartbeats 4000000 in
theorem c_X5_knownOf (hI : Inj 490 ad) {x1 : Int32} {x2 : Int32} {w : Wd} {out : Int32} (hf : m_X5_knownOf x1 x2 w = some out) : Met l yX5_knownOf wsX5_knownOf rmX5_knownOf (va_Pc [.ref (ad 50), .int x1, .int x2] (PW D (tC cI cL cS) 490 ad (cellC cI cL cS ad) w)) (QWi D 490 ad (cellC cI cL cS ad) out w) 0 0 (AW 490 ad) := by
  refine mk_met (maxL := 4) (ret := (some .int)) RX5 hI (by decide) rfl rfl (Nat.le_of_ble_eq_true rfl) rfl rfl (fun p e s m args below meth c X Y => ?_)
  unfold m_X5_knownOf at hf
  refine j_iload_n X 1 dX5_knownOf_0 rfl rfl ?_
  refine j_iconst X (v := (4 : Int32)) rfl dX5_knownOf_1 ?_
  refine j_imul X dX5_knownOf_2 ?_
  refine j_iload_n X 2 dX5_knownOf_3 rfl rfl ?_
  refine j_iadd X dX5_knownOf_4 ?_
  obtain ⟨x3_1, ex3_1, hf⟩ := f_lt hf
  refine j_top ex3_1 ?_
  refine j_istore_n (lv' := [(0, .ref (ad 50)), (1, .int x1), (2, .int x2), (3, .int x3_1)]) X dX5_knownOf_5 rfl (by decide) rfl ?_
  refine j_iload_n X 3 dX5_knownOf_6 rfl rfl ?_
  refine j_if_lt (tgt := 28) X dX5_knownOf_7 (by decide) (fun c => ?_) (fun c => ?_)
  · replace hf := f_t c hf
    refine j_iconst X (v := (0 : Int32)) rfl dX5_knownOf_28 ?_
    exact j_iret X Y (f_s hf) rfl dX5_knownOf_29
  replace hf := f_f c hf
  refine j_iload_n X 3 dX5_knownOf_10 rfl rfl ?_
  refine j_aload_n X 0 dX5_knownOf_11 rfl rfl ?_
  refine j_get (ref := "ProxyVersions$State") (index := 31) (v := .ref (ad 54)) X oS0 inX5_knownOf_X5 rfl 10 (by decide) (List.mem_of_getElem? (i := 1) rfl) rfl rfl dX5_knownOf_12 ?_
  refine j_alen X 0 rfl i54 dX5_knownOf_15 ?_
  refine j_icmp_ge (tgt := 28) X dX5_knownOf_16 (by decide) (fun c => ?_) (fun c => ?_)
  · replace hf := f_t c hf
    refine j_iconst X (v := (0 : Int32)) rfl dX5_knownOf_28 ?_
    exact j_iret X Y (f_s hf) rfl dX5_knownOf_29
  replace hf := f_f c hf
  refine j_aload_n X 0 dX5_knownOf_19 rfl rfl ?_
  refine j_get (ref := "ProxyVersions$State") (index := 31) (v := .ref (ad 54)) X oS0 inX5_knownOf_X5 rfl 10 (by decide) (List.mem_of_getElem? (i := 1) rfl) rfl rfl dX5_knownOf_20 ?_
  refine j_iload_n X 3 dX5_knownOf_23 rfl rfl ?_
  obtain ⟨hi2, hf⟩ := f_c hf
  refine j_iald X 0 rfl i54 hi2 dX5_knownOf_24 ?_
  refine j_goto (tgt := 29) X dX5_knownOf_25 (by decide) ?_
  exact j_iret X Y (f_s hf) rfl dX5_knownOf_29
abbrev rmX5_hasCausesIn : Room := { frames := 0, cells := 0, slots := 0, locals := 0 }
theorem inX5_hasCausesIn_X5 : ∀ w ∈ wsX50, w ∈ wsX5_hasCausesIn := fun _ h => List.mem_cons_of_mem _ (List.mem_append_right _ h)
set_option maxRecDepth 100000 in
set_option maxHeartbeats 4000000 in
theorem t_X5_hasCausesIn_L15 (X : CX p rmX5_hasCausesIn s m args c cX5_hasCausesIn 7 RX5 wsX5_hasCausesIn D (tC cI cL cS) 490 ad) (Y : RX meth (some .boolean)) {x4 : Int32} {w : Wd} {out : Int32} : ∀ (n : Nat) (x5 : Int32), m_X5_hasCausesIn_L15 x4 w n x5 = some out → WJ p l e rmX5_hasCausesIn s m args below meth c (MQ below (QWi D 490 ad (cellC cI cL cS ad) out w) args s 0 0 (AW 490 ad)) 7 D 490 ad (cellC cI cL cS ad) w 15 [(0, .ref (ad 50)), (3, .ref (ad 474)), (4, .int x4), (5, .int x5)] [] := by
  intro n
  induction n with
  | zero => intro x5 hf; exact f_n hf
  | succ n ih =>
    intro x5 hf
    rw [m_X5_hasCausesIn_L15] at hf
    refine j_iload X 3 dX5_hasCausesIn_15 rfl ?_
    refine j_iconst X (v := (4 : Int32)) rfl dX5_hasCausesIn_17 ?_
    refine j_icmp_ge (tgt := 72) X dX5_hasCausesIn_18 (by decide) (fun c => ?_) (fun c => ?_)
    · replace hf := f_t c hf
      refine j_iconst X (v := (1 : Int32)) rfl dX5_hasCausesIn_72 ?_
      exact j_bret X Y (Eq.trans (by decide : (1 : Int32) &&& 1 = (1 : Int32)) (f_s hf)) rfl dX5_hasCausesIn_73
    replace hf := f_f c hf
    refine j_iload X 2 dX5_hasCausesIn_21 rfl ?_
    refine j_iload X 3 dX5_hasCausesIn_23 rfl ?_
    refine j_iadd X dX5_hasCausesIn_25 ?_
    obtain ⟨x6_1, ex6_1, hf⟩ := f_lt hf
    refine j_top ex6_1 ?_
    refine j_istore (lv' := [(0, .ref (ad 50)), (3, .ref (ad 474)), (4, .int x4), (5, .int x5), (6, .int x6_1)]) X dX5_hasCausesIn_26 (by decide) rfl ?_
    refine j_iload X 4 dX5_hasCausesIn_28 rfl ?_
    refine j_if_lt (tgt := 64) X dX5_hasCausesIn_30 (by decide) (fun c => ?_) (fun c => ?_)
    · replace hf := f_t c hf
      refine j_iconst X (v := (0 : Int32)) rfl dX5_hasCausesIn_64 ?_
      exact j_bret X Y (Eq.trans (by decide : (0 : Int32) &&& 1 = (0 : Int32)) (f_s hf)) rfl dX5_hasCausesIn_65
    replace hf := f_f c hf
    refine j_iload X 4 dX5_hasCausesIn_33 rfl ?_
    refine j_aload_n X 0 dX5_hasCausesIn_35 rfl rfl ?_
    refine j_get (ref := "ProxyVersions$State") (index := 34) (v := .ref (ad 55)) X oS0 inX5_hasCausesIn_X5 rfl 11 (by decide) (List.mem_of_getElem? (i := 1) rfl) rfl rfl dX5_hasCausesIn_36 ?_
    refine j_alen X 0 rfl i55 dX5_hasCausesIn_39 ?_
    refine j_icmp_ge (tgt := 64) X dX5_hasCausesIn_40 (by decide) (fun c => ?_) (fun c => ?_)
    · replace hf := f_t c hf
      refine j_iconst X (v := (0 : Int32)) rfl dX5_hasCausesIn_64 ?_
      exact j_bret X Y (Eq.trans (by decide : (0 : Int32) &&& 1 = (0 : Int32)) (f_s hf)) rfl dX5_hasCausesIn_65
    replace hf := f_f c hf
    refine j_iload X 3 dX5_hasCausesIn_43 rfl ?_
    refine j_aload_n X 1 dX5_hasCausesIn_45 rfl rfl ?_
    refine j_alen X 0 rfl i474 dX5_hasCausesIn_46 ?_
    refine j_icmp_ge (tgt := 64) X dX5_hasCausesIn_47 (by decide) (fun c => ?_) (fun c => ?_)
    · replace hf := f_t c hf
      refine j_iconst X (v := (0 : Int32)) rfl dX5_hasCausesIn_64 ?_
      exact j_bret X Y (Eq.trans (by decide : (0 : Int32) &&& 1 = (0 : Int32)) (f_s hf)) rfl dX5_hasCausesIn_65
    replace hf := f_f c hf
    refine j_aload_n X 0 dX5_hasCausesIn_50 rfl rfl ?_
    refine j_get (ref := "ProxyVersions$State") (index := 34) (v := .ref (ad 55)) X oS0 inX5_hasCausesIn_X5 rfl 11 (by decide) (List.mem_of_getElem? (i := 1) rfl) rfl rfl dX5_hasCausesIn_51 ?_
    refine j_iload X 4 dX5_hasCausesIn_54 rfl ?_
    obtain ⟨hi2, hf⟩ := f_c hf
    refine j_iald X 0 rfl i55 hi2 dX5_hasCausesIn_56 ?_
    refine j_aload_n X 1 dX5_hasCausesIn_57 rfl rfl ?_
    refine j_iload X 3 dX5_hasCausesIn_58 rfl ?_
    obtain ⟨hi3, hf⟩ := f_c hf
    refine j_iald X 0 rfl i474 hi3 dX5_hasCausesIn_60 ?_
    refine j_icmp_le (tgt := 66) X dX5_hasCausesIn_61 (by decide) (fun c => ?_) (fun c => ?_)
    · replace hf := f_t c hf
      refine j_iinc (v := (x5 + (1 : Int32))) (lv' := [(0, .ref (ad 50)), (3, .ref (ad 474)), (4, .int x4), (5, .int (x5 + (1 : Int32))), (6, .int x6_1)]) X 3 dX5_hasCausesIn_66 rfl rfl (by decide) rfl ?_
      refine j_goto (tgt := 15) X dX5_hasCausesIn_69 (by decide) ?_
      refine j_sub [0, 1, 2, 3] rfl ?_
      exact ih _ hf
    replace hf := f_f c hf
    refine j_iconst X (v := (0 : Int32)) rfl dX5_hasCausesIn_64 ?_
    exact j_bret X Y (Eq.trans (by decide : (0 : Int32) &&& 1 = (0 : Int32)) (f_s hf)) rfl dX5_hasCausesIn_65
set_option maxRecDepth 100000 in
set_option maxHeartbeats 4000000 in
theorem c_X5_hasCausesIn (hI : Inj 490 ad) {x1 : Int32} {x2 : Int32} {w : Wd} {out : Int32} (hf : m_X5_hasCausesIn x1 x2 w = some out) : Met l yX5_hasCausesIn wsX5_hasCausesIn rmX5_hasCausesIn (va_Pc [.ref (ad 50), .int x1, .int x2, .ref (ad 474)] (PW D (tC cI cL cS) 490 ad (cellC cI cL cS ad) w)) (QWi D 490 ad (cellC cI cL cS ad) out w) 0 0 (AW 490 ad) := by
  refine mk_met (maxL := 7) (ret := (some .boolean)) RX5 hI (by decide) rfl rfl (Nat.le_of_ble_eq_true rfl) rfl rfl (fun p e s m args below meth c X Y => ?_)
  unfold m_X5_hasCausesIn at hf
  refine j_iload_n X 1 dX5_hasCausesIn_0 rfl rfl ?_
  refine j_bipush X (v := (24 : Int32)) (by decide) dX5_hasCausesIn_1 ?_
  refine j_imul X dX5_hasCausesIn_3 ?_
  refine j_iload_n X 2 dX5_hasCausesIn_4 rfl rfl ?_
  refine j_iadd X dX5_hasCausesIn_5 ?_
  refine j_iconst X (v := (1 : Int32)) rfl dX5_hasCausesIn_6 ?_
  refine j_isub X dX5_hasCausesIn_7 ?_
  refine j_iconst X (v := (4 : Int32)) rfl dX5_hasCausesIn_8 ?_
  refine j_imul X dX5_hasCausesIn_9 ?_
  obtain ⟨x4_1, ex4_1, hf⟩ := f_lt hf
  refine j_top ex4_1 ?_
  refine j_istore (lv' := [(0, .ref (ad 50)), (1, .int x1), (2, .int x2), (3, .ref (ad 474)), (4, .int x4_1)]) X dX5_hasCausesIn_10 (by decide) rfl ?_
  refine j_iconst X (v := (0 : Int32)) rfl dX5_hasCausesIn_12 ?_
  refine j_istore (lv' := [(0, .ref (ad 50)), (1, .int x1), (2, .int x2), (3, .ref (ad 474)), (4, .int x4_1), (5, .int (0 : Int32))]) X dX5_hasCausesIn_13 (by decide) rfl ?_
  refine j_sub [0, 3, 4, 5] rfl ?_
  refine t_X5_hasCausesIn_L15 X Y _ _ hf
abbrev rmX5_causeOf : Room := { frames := 0, cells := 0, slots := 0, locals := 0 }
theorem inX5_causeOf_X5 : ∀ w ∈ wsX50, w ∈ wsX5_causeOf := fun _ h => List.mem_cons_of_mem _ (List.mem_append_right _ h)
set_option maxRecDepth 100000 in
set_option maxHeartbeats 4000000 in
theorem c_X5_causeOf (hI : Inj 490 ad) {x1 : Int32} {x2 : Int32} {x3 : Int32} {w : Wd} {out : Int32} (hf : m_X5_causeOf x1 x2 x3 w = some out) : Met l yX5_causeOf wsX5_causeOf rmX5_causeOf (va_Pc [.ref (ad 50), .int x1, .int x2, .int x3] (PW D (tC cI cL cS) 490 ad (cellC cI cL cS ad) w)) (QWi D 490 ad (cellC cI cL cS ad) out w) 0 0 (AW 490 ad) := by
  refine mk_met (maxL := 5) (ret := (some .int)) RX5 hI (by decide) rfl rfl (Nat.le_of_ble_eq_true rfl) rfl rfl (fun p e s m args below meth c X Y => ?_)
  unfold m_X5_causeOf at hf
  refine j_iload_n X 1 dX5_causeOf_0 rfl rfl ?_
  refine j_bipush X (v := (24 : Int32)) (by decide) dX5_causeOf_1 ?_
  refine j_imul X dX5_causeOf_3 ?_
  refine j_iload_n X 2 dX5_causeOf_4 rfl rfl ?_
  refine j_iadd X dX5_causeOf_5 ?_
  refine j_iconst X (v := (1 : Int32)) rfl dX5_causeOf_6 ?_
  refine j_isub X dX5_causeOf_7 ?_
  refine j_iconst X (v := (4 : Int32)) rfl dX5_causeOf_8 ?_
  refine j_imul X dX5_causeOf_9 ?_
  refine j_iload_n X 3 dX5_causeOf_10 rfl rfl ?_
  refine j_iadd X dX5_causeOf_11 ?_
  obtain ⟨x4_1, ex4_1, hf⟩ := f_lt hf
  refine j_top ex4_1 ?_
  refine j_istore (lv' := [(0, .ref (ad 50)), (1, .int x1), (2, .int x2), (3, .int x3), (4, .int x4_1)]) X dX5_causeOf_12 (by decide) rfl ?_
  refine j_iload X 4 dX5_causeOf_14 rfl ?_
  refine j_if_lt (tgt := 39) X dX5_causeOf_16 (by decide) (fun c => ?_) (fun c => ?_)
  · replace hf := f_t c hf
    refine j_iconst X (v := (0 : Int32)) rfl dX5_causeOf_39 ?_
    exact j_iret X Y (f_s hf) rfl dX5_causeOf_40
  replace hf := f_f c hf
  refine j_iload X 4 dX5_causeOf_19 rfl ?_
  refine j_aload_n X 0 dX5_causeOf_21 rfl rfl ?_
  refine j_get (ref := "ProxyVersions$State") (index := 34) (v := .ref (ad 55)) X oS0 inX5_causeOf_X5 rfl 11 (by decide) (List.mem_of_getElem? (i := 1) rfl) rfl rfl dX5_causeOf_22 ?_
  refine j_alen X 0 rfl i55 dX5_causeOf_25 ?_
  refine j_icmp_ge (tgt := 39) X dX5_causeOf_26 (by decide) (fun c => ?_) (fun c => ?_)
  · replace hf := f_t c hf
    refine j_iconst X (v := (0 : Int32)) rfl dX5_causeOf_39 ?_
    exact j_iret X Y (f_s hf) rfl dX5_causeOf_40
  replace hf := f_f c hf
  refine j_aload_n X 0 dX5_causeOf_29 rfl rfl ?_
  refine j_get (ref := "ProxyVersions$State") (index := 34) (v := .ref (ad 55)) X oS0 inX5_causeOf_X5 rfl 11 (by decide) (List.mem_of_getElem? (i := 1) rfl) rfl rfl dX5_causeOf_30 ?_
  refine j_iload X 4 dX5_causeOf_33 rfl ?_
  obtain ⟨hi2, hf⟩ := f_c hf
  refine j_iald X 0 rfl i55 hi2 dX5_causeOf_35 ?_
  refine j_goto (tgt := 40) X dX5_causeOf_36 (by decide) ?_
  exact j_iret X Y (f_s hf) rfl dX5_causeOf_40
abbrev rmX5_knows : Room := { frames := 1, cells := 0, slots := 0, locals := 23 }
set_option maxRecDepth 100000 in
set_option maxHeartbeats 4000000 in
theorem c_X5_knows (hI : Inj 490 ad) {x1 : Int32} {x2 : Int32} {x3 : Int32} {w : Wd} {out : Int32} (hf : m_X5_knows x1 x2 x3 w = some out) : Met l yX5_knows wsX5_knows rmX5_knows (va_Pc [.ref (ad 50), .int x1, .int x2, .int x3] (PW D (tC cI cL cS) 490 ad (cellC cI cL cS ad) w)) (QWi D 490 ad (cellC cI cL cS ad) out w) 0 0 (AW 490 ad) := by
  refine mk_met (maxL := 4) (ret := (some .boolean)) RX5 hI (by decide) rfl rfl (Nat.le_of_ble_eq_true rfl) rfl rfl (fun p e s m args below meth c X Y => ?_)
  unfold m_X5_knows at hf
  refine j_aload_n X 0 dX5_knows_0 rfl rfl ?_
  refine j_iload_n X 1 dX5_knows_1 rfl rfl ?_
  refine j_iload_n X 2 dX5_knows_2 rfl rfl ?_
  obtain ⟨o1, ho1, hf⟩ := f_bd hf
  refine j_callVi X oS0 rfl rfl [.int x1, .int x2] (c_X5_knownOf X.2.2.2.2.2.2.2 ho1) (cwV 2 X.2.2.2.2.1 gX5_knows_X5_knownOf rfl rfl rfl (by decide +kernel) ⟨Nat.le_of_ble_eq_true rfl, Nat.le_of_ble_eq_true rfl⟩) rfl rfl (Nat.le_of_ble_eq_true rfl) dX5_knows_3 ?_
  refine j_iload_n X 3 dX5_knows_6 rfl rfl ?_
  obtain ⟨o2, ho2, hf⟩ := f_bd hf
  refine j_callSi X [.int o1, .int x3] (c_X6_contains X.2.2.2.2.2.2.2 ho2) (va_cwS 2 X.2.2.2.2.1 gX5_knows_X6_contains rfl rfl rfl (by decide +kernel) ⟨Nat.le_of_ble_eq_true rfl, Nat.le_of_ble_eq_true rfl⟩) rfl rfl (Nat.le_of_ble_eq_true rfl) dX5_knows_7 ?_
  exact j_bret X Y (f_s hf) rfl dX5_knows_10
abbrev rmX5_copyFrom : Room := { frames := 2, cells := 0, slots := 0, locals := 81 }
theorem inX5_copyFrom_X5 : ∀ w ∈ wsX50, w ∈ wsX5_copyFrom := fun _ h => List.mem_cons_of_mem _ (List.mem_append_left _ (List.mem_append_right _ h))
set_option maxRecDepth 100000 in
set_option maxHeartbeats 4000000 in
theorem t_X5_copyFrom_L132 (X : CX p rmX5_copyFrom s m args c cX5_copyFrom 3 RX5 wsX5_copyFrom D (tC cI cL cS) 490 ad) (Y : RX meth none) {z0 : Nat} {z1 : Nat} {out : Wd} (hz0 : z0 < 8) (hz1 : z1 < 8) : ∀ (n : Nat) (x2 : Int32) (w : Wd), m_X5_copyFrom_L132 z0 z1 n x2 w = some out → WJ p l e rmX5_copyFrom s m args below meth c (MQ below (QWv D 490 ad (cellC cI cL cS ad) out) args s 0 0 (AW 490 ad)) 3 D 490 ad (cellC cI cL cS ad) w 132 [(0, .ref (ad (59 * z0 + 50))), (1, .ref (ad (59 * z1 + 50))), (2, .int x2)] [] := by
  intro n
  induction n with
  | zero => intro x2 w hf; exact f_n hf
  | succ n ih =>
    intro x2 w hf
    rw [m_X5_copyFrom_L132] at hf
    refine j_iload_n X 2 dX5_copyFrom_132 rfl rfl ?_
    refine j_bipush X (v := (8 : Int32)) (by decide) dX5_copyFrom_133 ?_
    refine j_icmp_ge (tgt := 189) X dX5_copyFrom_135 (by decide) (fun c => ?_) (fun c => ?_)
    · replace hf := f_t c hf
      exact j_vret X Y (f_s hf) dX5_copyFrom_189
    replace hf := f_f c hf
    refine j_aload_n X 0 dX5_copyFrom_138 rfl rfl ?_
    refine j_get (ref := "ProxyVersions$State") (index := 39) (v := .ref (ad (59 * z0 + 56))) X (oSt hz0) inX5_copyFrom_X5 rfl 12 (by decide) (List.mem_of_getElem? (i := 17) rfl) rfl rfl dX5_copyFrom_139 ?_
    refine j_iload_n X 2 dX5_copyFrom_142 rfl rfl ?_
    obtain ⟨hi1, hf⟩ := f_c hf
    refine j_aald X 1 rfl (qSt56 hz0) hi1 dX5_copyFrom_143 ?_
    refine j_aload_n X 1 dX5_copyFrom_144 rfl rfl ?_
    refine j_get (ref := "ProxyVersions$State") (index := 39) (v := .ref (ad (59 * z1 + 56))) X (oSt hz1) inX5_copyFrom_X5 rfl 12 (by decide) (List.mem_of_getElem? (i := 17) rfl) rfl rfl dX5_copyFrom_145 ?_
    refine j_iload_n X 2 dX5_copyFrom_148 rfl rfl ?_
    obtain ⟨hi2, hf⟩ := f_c hf
    refine j_aald X 1 rfl (qSt56 hz1) hi2 dX5_copyFrom_149 ?_
    obtain ⟨o3, ho3, hf⟩ := f_bd hf
    refine j_callVv X (oLn (lnS56 hz0 hi1)) rfl rfl [.ref (ad (59 * z1 + 2 * x2.toNatClampNeg))] (c_X2_copyFrom X.2.2.2.2.2.2.2 (lnS56 hz0 hi1) (lnS56 hz1 hi2) ho3) (cwV 1 X.2.2.2.2.1 gX5_copyFrom_X2_copyFrom rfl rfl rfl (by decide +kernel) ⟨Nat.le_of_ble_eq_true rfl, Nat.le_of_ble_eq_true rfl⟩) rfl rfl (Nat.le_of_ble_eq_true rfl) dX5_copyFrom_150 ?_
    refine j_aload_n X 0 dX5_copyFrom_153 rfl rfl ?_
    refine j_get (ref := "ProxyVersions$State") (index := 43) (v := .ref (ad (59 * z0 + 57))) X (oSt hz0) inX5_copyFrom_X5 rfl 13 (by decide) (List.mem_of_getElem? (i := 18) rfl) rfl rfl dX5_copyFrom_154 ?_
    refine j_iload_n X 2 dX5_copyFrom_157 rfl rfl ?_
    obtain ⟨hi4, hf⟩ := f_c hf
    refine j_aald X 1 rfl (qSt57 hz0) hi4 dX5_copyFrom_158 ?_
    refine j_aload_n X 1 dX5_copyFrom_159 rfl rfl ?_
    refine j_get (ref := "ProxyVersions$State") (index := 43) (v := .ref (ad (59 * z1 + 57))) X (oSt hz1) inX5_copyFrom_X5 rfl 13 (by decide) (List.mem_of_getElem? (i := 18) rfl) rfl rfl dX5_copyFrom_160 ?_
    refine j_iload_n X 2 dX5_copyFrom_163 rfl rfl ?_
    obtain ⟨hi5, hf⟩ := f_c hf
    refine j_aald X 1 rfl (qSt57 hz1) hi5 dX5_copyFrom_164 ?_
    obtain ⟨o6, ho6, hf⟩ := f_bd hf
    refine j_callVv X (oLn (lnS57 hz0 hi4)) rfl rfl [.ref (ad (59 * z1 + 16 + 2 * x2.toNatClampNeg))] (c_X2_copyFrom X.2.2.2.2.2.2.2 (lnS57 hz0 hi4) (lnS57 hz1 hi5) ho6) (cwV 1 X.2.2.2.2.1 gX5_copyFrom_X2_copyFrom rfl rfl rfl (by decide +kernel) ⟨Nat.le_of_ble_eq_true rfl, Nat.le_of_ble_eq_true rfl⟩) rfl rfl (Nat.le_of_ble_eq_true rfl) dX5_copyFrom_165 ?_
    refine j_aload_n X 0 dX5_copyFrom_168 rfl rfl ?_
    refine j_get (ref := "ProxyVersions$State") (index := 46) (v := .ref (ad (59 * z0 + 58))) X (oSt hz0) inX5_copyFrom_X5 rfl 14 (by decide) (List.mem_of_getElem? (i := 19) rfl) rfl rfl dX5_copyFrom_169 ?_
    refine j_iload_n X 2 dX5_copyFrom_172 rfl rfl ?_
    obtain ⟨hi7, hf⟩ := f_c hf
    refine j_aald X 1 rfl (qSt58 hz0) hi7 dX5_copyFrom_173 ?_
    refine j_aload_n X 1 dX5_copyFrom_174 rfl rfl ?_
    refine j_get (ref := "ProxyVersions$State") (index := 46) (v := .ref (ad (59 * z1 + 58))) X (oSt hz1) inX5_copyFrom_X5 rfl 14 (by decide) (List.mem_of_getElem? (i := 19) rfl) rfl rfl dX5_copyFrom_175 ?_
    refine j_iload_n X 2 dX5_copyFrom_178 rfl rfl ?_
    obtain ⟨hi8, hf⟩ := f_c hf
    refine j_aald X 1 rfl (qSt58 hz1) hi8 dX5_copyFrom_179 ?_
    obtain ⟨o9, ho9, hf⟩ := f_bd hf
    refine j_callVv X (oLn (lnS58 hz0 hi7)) rfl rfl [.ref (ad (59 * z1 + 32 + 2 * x2.toNatClampNeg))] (c_X2_copyFrom X.2.2.2.2.2.2.2 (lnS58 hz0 hi7) (lnS58 hz1 hi8) ho9) (cwV 1 X.2.2.2.2.1 gX5_copyFrom_X2_copyFrom rfl rfl rfl (by decide +kernel) ⟨Nat.le_of_ble_eq_true rfl, Nat.le_of_ble_eq_true rfl⟩) rfl rfl (Nat.le_of_ble_eq_true rfl) dX5_copyFrom_180 ?_
    refine j_iinc (v := (x2 + (1 : Int32))) (lv' := [(0, .ref (ad (59 * z0 + 50))), (1, .ref (ad (59 * z1 + 50))), (2, .int (x2 + (1 : Int32)))]) X 2 dX5_copyFrom_183 rfl rfl (by decide) rfl ?_
    refine j_goto (tgt := 132) X dX5_copyFrom_186 (by decide) ?_
    exact ih _ _ hf
set_option maxRecDepth 100000 in
set_option maxHeartbeats 4000000 in
theorem c_X5_copyFrom (hI : Inj 490 ad) {z0 : Nat} {z1 : Nat} {w : Wd} {out : Wd} (hz0 : z0 < 8) (hz1 : z1 < 8) (hf : m_X5_copyFrom z0 z1 w = some out) : Met l yX5_copyFrom wsX5_copyFrom rmX5_copyFrom (va_Pc [.ref (ad (59 * z0 + 50)), .ref (ad (59 * z1 + 50))] (PW D (tC cI cL cS) 490 ad (cellC cI cL cS ad) w)) (QWv D 490 ad (cellC cI cL cS ad) out) 0 0 (AW 490 ad) := by
  refine mk_met (maxL := 3) (ret := none) RX5 hI (by decide) rfl rfl (Nat.le_of_ble_eq_true rfl) rfl rfl (fun p e s m args below meth c X Y => ?_)
  unfold m_X5_copyFrom at hf
  refine j_aload_n X 0 dX5_copyFrom_0 rfl rfl ?_
  refine j_aload_n X 1 dX5_copyFrom_1 rfl rfl ?_
  refine j_get (ref := "ProxyVersions$State") (index := 9) (v := .int (w (59 * z1 + 50) 0)) X (oSt hz1) inX5_copyFrom_X5 rfl 0 (by decide) (List.mem_of_getElem? (i := 1) rfl) rfl rfl dX5_copyFrom_2 ?_
  obtain ⟨w1, ew1, hf⟩ := f_lt hf
  refine j_put (ref := "ProxyVersions$State") (index := 9)  X (oSt hz0) inX5_copyFrom_X5 tyX5_ok nmX5 rfl 0 (by decide) (List.mem_of_getElem? (i := 1) rfl) rfl rfl rfl (Nat.le_of_ble_eq_true rfl) rfl dX5_copyFrom_5 ew1 ?_
  refine j_aload_n X 0 dX5_copyFrom_8 rfl rfl ?_
  refine j_aload_n X 1 dX5_copyFrom_9 rfl rfl ?_
  refine j_get (ref := "ProxyVersions$State") (index := 15) (v := .int (w1 (59 * z1 + 50) 1)) X (oSt hz1) inX5_copyFrom_X5 rfl 1 (by decide) (List.mem_of_getElem? (i := 2) rfl) rfl rfl dX5_copyFrom_10 ?_
  obtain ⟨w2, ew2, hf⟩ := f_lt hf
  refine j_put (ref := "ProxyVersions$State") (index := 15)  X (oSt hz0) inX5_copyFrom_X5 tyX5_ok nmX5 rfl 1 (by decide) (List.mem_of_getElem? (i := 2) rfl) rfl rfl rfl (Nat.le_of_ble_eq_true rfl) rfl dX5_copyFrom_13 ew2 ?_
  refine j_aload_n X 0 dX5_copyFrom_16 rfl rfl ?_
  refine j_aload_n X 1 dX5_copyFrom_17 rfl rfl ?_
  refine j_get (ref := "ProxyVersions$State") (index := 18) (v := .int (w2 (59 * z1 + 50) 2)) X (oSt hz1) inX5_copyFrom_X5 rfl 2 (by decide) (List.mem_of_getElem? (i := 3) rfl) rfl rfl dX5_copyFrom_18 ?_
  obtain ⟨w3, ew3, hf⟩ := f_lt hf
  refine j_put (ref := "ProxyVersions$State") (index := 18)  X (oSt hz0) inX5_copyFrom_X5 tyX5_ok nmX5 rfl 2 (by decide) (List.mem_of_getElem? (i := 3) rfl) rfl rfl rfl (Nat.le_of_ble_eq_true rfl) rfl dX5_copyFrom_21 ew3 ?_
  refine j_aload_n X 0 dX5_copyFrom_24 rfl rfl ?_
  refine j_aload_n X 1 dX5_copyFrom_25 rfl rfl ?_
  refine j_get (ref := "ProxyVersions$State") (index := 56) (v := .int (w3 (59 * z1 + 50) 3)) X (oSt hz1) inX5_copyFrom_X5 rfl 3 (by decide) (List.mem_of_getElem? (i := 4) rfl) rfl rfl dX5_copyFrom_26 ?_
  obtain ⟨w4, ew4, hf⟩ := f_lt hf
  refine j_put (ref := "ProxyVersions$State") (index := 56)  X (oSt hz0) inX5_copyFrom_X5 tyX5_ok nmX5 rfl 3 (by decide) (List.mem_of_getElem? (i := 4) rfl) rfl rfl rfl (Nat.le_of_ble_eq_true rfl) rfl dX5_copyFrom_29 ew4 ?_
  refine j_aload_n X 0 dX5_copyFrom_32 rfl rfl ?_
  refine j_aload_n X 1 dX5_copyFrom_33 rfl rfl ?_
  refine j_get (ref := "ProxyVersions$State") (index := 59) (v := .int (w4 (59 * z1 + 50) 4)) X (oSt hz1) inX5_copyFrom_X5 rfl 4 (by decide) (List.mem_of_getElem? (i := 5) rfl) rfl rfl dX5_copyFrom_34 ?_
  obtain ⟨w5, ew5, hf⟩ := f_lt hf
  refine j_put (ref := "ProxyVersions$State") (index := 59)  X (oSt hz0) inX5_copyFrom_X5 tyX5_ok nmX5 rfl 4 (by decide) (List.mem_of_getElem? (i := 5) rfl) rfl rfl rfl (Nat.le_of_ble_eq_true rfl) rfl dX5_copyFrom_37 ew5 ?_
  refine j_aload_n X 0 dX5_copyFrom_40 rfl rfl ?_
  refine j_aload_n X 1 dX5_copyFrom_41 rfl rfl ?_
  refine j_get (ref := "ProxyVersions$State") (index := 62) (v := .int (w5 (59 * z1 + 50) 5)) X (oSt hz1) inX5_copyFrom_X5 rfl 5 (by decide) (List.mem_of_getElem? (i := 6) rfl) rfl rfl dX5_copyFrom_42 ?_
  obtain ⟨w6, ew6, hf⟩ := f_lt hf
  refine j_put (ref := "ProxyVersions$State") (index := 62)  X (oSt hz0) inX5_copyFrom_X5 tyX5_ok nmX5 rfl 5 (by decide) (List.mem_of_getElem? (i := 6) rfl) rfl rfl rfl (Nat.le_of_ble_eq_true rfl) rfl dX5_copyFrom_45 ew6 ?_
  refine j_aload_n X 0 dX5_copyFrom_48 rfl rfl ?_
  refine j_aload_n X 1 dX5_copyFrom_49 rfl rfl ?_
  refine j_get (ref := "ProxyVersions$State") (index := 65) (v := .int (w6 (59 * z1 + 50) 6)) X (oSt hz1) inX5_copyFrom_X5 rfl 6 (by decide) (List.mem_of_getElem? (i := 7) rfl) rfl rfl dX5_copyFrom_50 ?_
  obtain ⟨w7, ew7, hf⟩ := f_lt hf
  refine j_put (ref := "ProxyVersions$State") (index := 65)  X (oSt hz0) inX5_copyFrom_X5 tyX5_ok nmX5 rfl 6 (by decide) (List.mem_of_getElem? (i := 7) rfl) rfl rfl rfl (Nat.le_of_ble_eq_true rfl) rfl dX5_copyFrom_53 ew7 ?_
  refine j_aload_n X 1 dX5_copyFrom_56 rfl rfl ?_
  refine j_get (ref := "ProxyVersions$State") (index := 21) (v := .ref (ad (59 * z1 + 51))) X (oSt hz1) inX5_copyFrom_X5 rfl 7 (by decide) (List.mem_of_getElem? (i := 8) rfl) rfl rfl dX5_copyFrom_57 ?_
  refine j_iconst X (v := (0 : Int32)) rfl dX5_copyFrom_60 ?_
  refine j_aload_n X 0 dX5_copyFrom_61 rfl rfl ?_
  refine j_get (ref := "ProxyVersions$State") (index := 21) (v := .ref (ad (59 * z0 + 51))) X (oSt hz0) inX5_copyFrom_X5 rfl 7 (by decide) (List.mem_of_getElem? (i := 8) rfl) rfl rfl dX5_copyFrom_62 ?_
  refine j_iconst X (v := (0 : Int32)) rfl dX5_copyFrom_65 ?_
  refine j_bipush X (v := (8 : Int32)) (by decide) dX5_copyFrom_66 ?_
  obtain ⟨hi8, hf⟩ := f_c hf
  obtain ⟨w9, ew9, hf⟩ := f_lt hf
  refine j_copy X (List.mem_of_getElem? (i := 9) rfl) (List.mem_of_getElem? (i := 10) rfl) (List.mem_of_getElem? (i := 11) rfl) (List.mem_of_getElem? (i := 12) rfl) 0 rfl (iSt51 hz1) (iSt51 hz0) hi8.1 hi8.2.1 hi8.2.2.1 hi8.2.2.2.1 hi8.2.2.2.2 (Nat.le_of_ble_eq_true rfl) (by decide +kernel) dX5_copyFrom_68 ew9 ?_
  refine j_aload_n X 1 dX5_copyFrom_71 rfl rfl ?_
  refine j_get (ref := "ProxyVersions$State") (index := 25) (v := .ref (ad (59 * z1 + 52))) X (oSt hz1) inX5_copyFrom_X5 rfl 8 (by decide) (List.mem_of_getElem? (i := 13) rfl) rfl rfl dX5_copyFrom_72 ?_
  refine j_iconst X (v := (0 : Int32)) rfl dX5_copyFrom_75 ?_
  refine j_aload_n X 0 dX5_copyFrom_76 rfl rfl ?_
  refine j_get (ref := "ProxyVersions$State") (index := 25) (v := .ref (ad (59 * z0 + 52))) X (oSt hz0) inX5_copyFrom_X5 rfl 8 (by decide) (List.mem_of_getElem? (i := 13) rfl) rfl rfl dX5_copyFrom_77 ?_
  refine j_iconst X (v := (0 : Int32)) rfl dX5_copyFrom_80 ?_
  refine j_iconst X (v := (4 : Int32)) rfl dX5_copyFrom_81 ?_
  obtain ⟨hi10, hf⟩ := f_c hf
  obtain ⟨w11, ew11, hf⟩ := f_lt hf
  refine j_copy X (List.mem_of_getElem? (i := 9) rfl) (List.mem_of_getElem? (i := 10) rfl) (List.mem_of_getElem? (i := 11) rfl) (List.mem_of_getElem? (i := 12) rfl) 0 rfl (iSt52 hz1) (iSt52 hz0) hi10.1 hi10.2.1 hi10.2.2.1 hi10.2.2.2.1 hi10.2.2.2.2 (Nat.le_of_ble_eq_true rfl) (by decide +kernel) dX5_copyFrom_82 ew11 ?_
  refine j_aload_n X 1 dX5_copyFrom_85 rfl rfl ?_
  refine j_get (ref := "ProxyVersions$State") (index := 28) (v := .ref (ad (59 * z1 + 53))) X (oSt hz1) inX5_copyFrom_X5 rfl 9 (by decide) (List.mem_of_getElem? (i := 14) rfl) rfl rfl dX5_copyFrom_86 ?_
  refine j_iconst X (v := (0 : Int32)) rfl dX5_copyFrom_89 ?_
  refine j_aload_n X 0 dX5_copyFrom_90 rfl rfl ?_
  refine j_get (ref := "ProxyVersions$State") (index := 28) (v := .ref (ad (59 * z0 + 53))) X (oSt hz0) inX5_copyFrom_X5 rfl 9 (by decide) (List.mem_of_getElem? (i := 14) rfl) rfl rfl dX5_copyFrom_91 ?_
  refine j_iconst X (v := (0 : Int32)) rfl dX5_copyFrom_94 ?_
  refine j_iconst X (v := (4 : Int32)) rfl dX5_copyFrom_95 ?_
  obtain ⟨hi12, hf⟩ := f_c hf
  obtain ⟨w13, ew13, hf⟩ := f_lt hf
  refine j_copy X (List.mem_of_getElem? (i := 9) rfl) (List.mem_of_getElem? (i := 10) rfl) (List.mem_of_getElem? (i := 11) rfl) (List.mem_of_getElem? (i := 12) rfl) 0 rfl (iSt53 hz1) (iSt53 hz0) hi12.1 hi12.2.1 hi12.2.2.1 hi12.2.2.2.1 hi12.2.2.2.2 (Nat.le_of_ble_eq_true rfl) (by decide +kernel) dX5_copyFrom_96 ew13 ?_
  refine j_aload_n X 1 dX5_copyFrom_99 rfl rfl ?_
  refine j_get (ref := "ProxyVersions$State") (index := 31) (v := .ref (ad (59 * z1 + 54))) X (oSt hz1) inX5_copyFrom_X5 rfl 10 (by decide) (List.mem_of_getElem? (i := 15) rfl) rfl rfl dX5_copyFrom_100 ?_
  refine j_iconst X (v := (0 : Int32)) rfl dX5_copyFrom_103 ?_
  refine j_aload_n X 0 dX5_copyFrom_104 rfl rfl ?_
  refine j_get (ref := "ProxyVersions$State") (index := 31) (v := .ref (ad (59 * z0 + 54))) X (oSt hz0) inX5_copyFrom_X5 rfl 10 (by decide) (List.mem_of_getElem? (i := 15) rfl) rfl rfl dX5_copyFrom_105 ?_
  refine j_iconst X (v := (0 : Int32)) rfl dX5_copyFrom_108 ?_
  refine j_bipush X (v := (32 : Int32)) (by decide) dX5_copyFrom_109 ?_
  obtain ⟨hi14, hf⟩ := f_c hf
  obtain ⟨w15, ew15, hf⟩ := f_lt hf
  refine j_copy X (List.mem_of_getElem? (i := 9) rfl) (List.mem_of_getElem? (i := 10) rfl) (List.mem_of_getElem? (i := 11) rfl) (List.mem_of_getElem? (i := 12) rfl) 0 rfl (iSt54 hz1) (iSt54 hz0) hi14.1 hi14.2.1 hi14.2.2.1 hi14.2.2.2.1 hi14.2.2.2.2 (Nat.le_of_ble_eq_true rfl) (by decide +kernel) dX5_copyFrom_111 ew15 ?_
  refine j_aload_n X 1 dX5_copyFrom_114 rfl rfl ?_
  refine j_get (ref := "ProxyVersions$State") (index := 34) (v := .ref (ad (59 * z1 + 55))) X (oSt hz1) inX5_copyFrom_X5 rfl 11 (by decide) (List.mem_of_getElem? (i := 16) rfl) rfl rfl dX5_copyFrom_115 ?_
  refine j_iconst X (v := (0 : Int32)) rfl dX5_copyFrom_118 ?_
  refine j_aload_n X 0 dX5_copyFrom_119 rfl rfl ?_
  refine j_get (ref := "ProxyVersions$State") (index := 34) (v := .ref (ad (59 * z0 + 55))) X (oSt hz0) inX5_copyFrom_X5 rfl 11 (by decide) (List.mem_of_getElem? (i := 16) rfl) rfl rfl dX5_copyFrom_120 ?_
  refine j_iconst X (v := (0 : Int32)) rfl dX5_copyFrom_123 ?_
  refine j_sipush X (v := (384 : Int32)) (by decide) dX5_copyFrom_124 ?_
  obtain ⟨hi16, hf⟩ := f_c hf
  obtain ⟨w17, ew17, hf⟩ := f_lt hf
  refine j_copy X (List.mem_of_getElem? (i := 9) rfl) (List.mem_of_getElem? (i := 10) rfl) (List.mem_of_getElem? (i := 11) rfl) (List.mem_of_getElem? (i := 12) rfl) 0 rfl (iSt55 hz1) (iSt55 hz0) hi16.1 hi16.2.1 hi16.2.2.1 hi16.2.2.2.1 hi16.2.2.2.2 (Nat.le_of_ble_eq_true rfl) (by decide +kernel) dX5_copyFrom_127 ew17 ?_
  refine j_iconst X (v := (0 : Int32)) rfl dX5_copyFrom_130 ?_
  refine j_istore_n (lv' := [(0, .ref (ad (59 * z0 + 50))), (1, .ref (ad (59 * z1 + 50))), (2, .int (0 : Int32))]) X dX5_copyFrom_131 rfl (by decide) rfl ?_
  refine t_X5_copyFrom_L132 X Y hz0 hz1 _ _ _ hf
abbrev rmX5_hasProxy : Room := { frames := 0, cells := 0, slots := 0, locals := 0 }
theorem inX5_hasProxy_X5 : ∀ w ∈ wsX50, w ∈ wsX5_hasProxy := fun _ h => List.mem_cons_of_mem _ (List.mem_append_right _ h)
set_option maxRecDepth 100000 in
set_option maxHeartbeats 4000000 in
theorem c_X5_hasProxy (hI : Inj 490 ad) {x1 : Int32} {w : Wd} {out : Int32} (hf : m_X5_hasProxy x1 w = some out) : Met l yX5_hasProxy wsX5_hasProxy rmX5_hasProxy (va_Pc [.ref (ad 50), .int x1] (PW D (tC cI cL cS) 490 ad (cellC cI cL cS ad) w)) (QWi D 490 ad (cellC cI cL cS ad) out w) 0 0 (AW 490 ad) := by
  refine mk_met (maxL := 2) (ret := (some .boolean)) RX5 hI (by decide) rfl rfl (Nat.le_of_ble_eq_true rfl) rfl rfl (fun p e s m args below meth c X Y => ?_)
  unfold m_X5_hasProxy at hf
  refine j_iload_n X 1 dX5_hasProxy_0 rfl rfl ?_
  refine j_if_lt (tgt := 16) X dX5_hasProxy_1 (by decide) (fun c => ?_) (fun c => ?_)
  · replace hf := f_t c hf
    refine j_iconst X (v := (0 : Int32)) rfl dX5_hasProxy_16 ?_
    exact j_bret X Y (Eq.trans (by decide : (0 : Int32) &&& 1 = (0 : Int32)) (f_s hf)) rfl dX5_hasProxy_17
  replace hf := f_f c hf
  refine j_iload_n X 1 dX5_hasProxy_4 rfl rfl ?_
  refine j_aload_n X 0 dX5_hasProxy_5 rfl rfl ?_
  refine j_get (ref := "ProxyVersions$State") (index := 9) (v := .int (w 50 0)) X oS0 inX5_hasProxy_X5 rfl 0 (by decide) (List.mem_of_getElem? (i := 1) rfl) rfl rfl dX5_hasProxy_6 ?_
  refine j_icmp_ge (tgt := 16) X dX5_hasProxy_9 (by decide) (fun c => ?_) (fun c => ?_)
  · replace hf := f_t c hf
    refine j_iconst X (v := (0 : Int32)) rfl dX5_hasProxy_16 ?_
    exact j_bret X Y (Eq.trans (by decide : (0 : Int32) &&& 1 = (0 : Int32)) (f_s hf)) rfl dX5_hasProxy_17
  replace hf := f_f c hf
  refine j_iconst X (v := (1 : Int32)) rfl dX5_hasProxy_12 ?_
  refine j_goto (tgt := 17) X dX5_hasProxy_13 (by decide) ?_
  exact j_bret X Y (Eq.trans (by decide : (1 : Int32) &&& 1 = (1 : Int32)) (f_s hf)) rfl dX5_hasProxy_17
abbrev rmX5_addChild : Room := { frames := 0, cells := 0, slots := 0, locals := 0 }
theorem inX5_addChild_X5 : ∀ w ∈ wsX50, w ∈ wsX5_addChild := fun _ h => List.mem_cons_of_mem _ (List.mem_append_right _ h)
set_option maxRecDepth 100000 in
set_option maxHeartbeats 4000000 in
theorem c_X5_addChild (hI : Inj 490 ad) {x1 : Int32} {w : Wd} {out : Int32 × Wd} (hf : m_X5_addChild x1 w = some out) : Met l yX5_addChild wsX5_addChild rmX5_addChild (va_Pc [.ref (ad 50), .int x1] (PW D (tC cI cL cS) 490 ad (cellC cI cL cS ad) w)) (QWi D 490 ad (cellC cI cL cS ad) out.1 out.2) 0 0 (AW 490 ad) := by
  refine mk_met (maxL := 3) (ret := (some .int)) RX5 hI (by decide) rfl rfl (Nat.le_of_ble_eq_true rfl) rfl rfl (fun p e s m args below meth c X Y => ?_)
  unfold m_X5_addChild at hf
  refine j_aload_n X 0 dX5_addChild_0 rfl rfl ?_
  refine j_get (ref := "ProxyVersions$State") (index := 9) (v := .int (w 50 0)) X oS0 inX5_addChild_X5 rfl 0 (by decide) (List.mem_of_getElem? (i := 1) rfl) rfl rfl dX5_addChild_1 ?_
  obtain ⟨x2_1, ex2_1, hf⟩ := f_lt hf
  refine j_top ex2_1 ?_
  refine j_istore_n (lv' := [(0, .ref (ad 50)), (1, .int x1), (2, .int x2_1)]) X dX5_addChild_4 rfl (by decide) rfl ?_
  refine j_iload_n X 2 dX5_addChild_5 rfl rfl ?_
  refine j_if_lt (tgt := 35) X dX5_addChild_6 (by decide) (fun c => ?_) (fun c => ?_)
  · replace hf := f_t c hf
    refine j_iload_n X 2 dX5_addChild_35 rfl rfl ?_
    exact j_iret X Y (congrArg Prod.fst (f_s hf)) (congrArg Prod.snd (f_s hf)) dX5_addChild_36
  replace hf := f_f c hf
  refine j_iload_n X 2 dX5_addChild_9 rfl rfl ?_
  refine j_aload_n X 0 dX5_addChild_10 rfl rfl ?_
  refine j_get (ref := "ProxyVersions$State") (index := 21) (v := .ref (ad 51)) X oS0 inX5_addChild_X5 rfl 7 (by decide) (List.mem_of_getElem? (i := 2) rfl) rfl rfl dX5_addChild_11 ?_
  refine j_alen X 0 rfl i51 dX5_addChild_14 ?_
  refine j_icmp_ge (tgt := 35) X dX5_addChild_15 (by decide) (fun c => ?_) (fun c => ?_)
  · replace hf := f_t c hf
    refine j_iload_n X 2 dX5_addChild_35 rfl rfl ?_
    exact j_iret X Y (congrArg Prod.fst (f_s hf)) (congrArg Prod.snd (f_s hf)) dX5_addChild_36
  replace hf := f_f c hf
  refine j_aload_n X 0 dX5_addChild_18 rfl rfl ?_
  refine j_get (ref := "ProxyVersions$State") (index := 21) (v := .ref (ad 51)) X oS0 inX5_addChild_X5 rfl 7 (by decide) (List.mem_of_getElem? (i := 2) rfl) rfl rfl dX5_addChild_19 ?_
  refine j_iload_n X 2 dX5_addChild_22 rfl rfl ?_
  refine j_iload_n X 1 dX5_addChild_23 rfl rfl ?_
  obtain ⟨hi2, hf⟩ := f_c hf
  obtain ⟨w3, ew3, hf⟩ := f_lt hf
  refine j_iast X 0 rfl i51 hi2 dX5_addChild_24 ew3 ?_
  refine j_aload_n X 0 dX5_addChild_25 rfl rfl ?_
  refine j_dup X rfl dX5_addChild_26 ?_
  refine j_get (ref := "ProxyVersions$State") (index := 9) (v := .int (w3 50 0)) X oS0 inX5_addChild_X5 rfl 0 (by decide) (List.mem_of_getElem? (i := 1) rfl) rfl rfl dX5_addChild_27 ?_
  refine j_iconst X (v := (1 : Int32)) rfl dX5_addChild_30 ?_
  refine j_iadd X dX5_addChild_31 ?_
  obtain ⟨w4, ew4, hf⟩ := f_lt hf
  refine j_put (ref := "ProxyVersions$State") (index := 9)  X oS0 inX5_addChild_X5 tyX5_ok nmX5 rfl 0 (by decide) (List.mem_of_getElem? (i := 1) rfl) rfl rfl rfl (Nat.le_of_ble_eq_true rfl) rfl dX5_addChild_32 ew4 ?_
  refine j_iload_n X 2 dX5_addChild_35 rfl rfl ?_
  exact j_iret X Y (congrArg Prod.fst (f_s hf)) (congrArg Prod.snd (f_s hf)) dX5_addChild_36
abbrev rmX5_writtenOf : Room := { frames := 0, cells := 0, slots := 0, locals := 0 }
theorem inX5_writtenOf_X5 : ∀ w ∈ wsX50, w ∈ wsX5_writtenOf := fun _ h => List.mem_cons_of_mem _ (List.mem_append_right _ h)
set_option maxRecDepth 100000 in
set_option maxHeartbeats 4000000 in
theorem c_X5_writtenOf (hI : Inj 490 ad) {x1 : Int32} {w : Wd} {out : Int32} (hf : m_X5_writtenOf x1 w = some out) : Met l yX5_writtenOf wsX5_writtenOf rmX5_writtenOf (va_Pc [.ref (ad 50), .int x1] (PW D (tC cI cL cS) 490 ad (cellC cI cL cS ad) w)) (QWi D 490 ad (cellC cI cL cS ad) out w) 0 0 (AW 490 ad) := by
  refine mk_met (maxL := 2) (ret := (some .int)) RX5 hI (by decide) rfl rfl (Nat.le_of_ble_eq_true rfl) rfl rfl (fun p e s m args below meth c X Y => ?_)
  unfold m_X5_writtenOf at hf
  refine j_iload_n X 1 dX5_writtenOf_0 rfl rfl ?_
  refine j_if_lt (tgt := 22) X dX5_writtenOf_1 (by decide) (fun c => ?_) (fun c => ?_)
  · replace hf := f_t c hf
    refine j_iconst X (v := (0 : Int32)) rfl dX5_writtenOf_22 ?_
    exact j_iret X Y (f_s hf) rfl dX5_writtenOf_23
  replace hf := f_f c hf
  refine j_iload_n X 1 dX5_writtenOf_4 rfl rfl ?_
  refine j_aload_n X 0 dX5_writtenOf_5 rfl rfl ?_
  refine j_get (ref := "ProxyVersions$State") (index := 28) (v := .ref (ad 53)) X oS0 inX5_writtenOf_X5 rfl 9 (by decide) (List.mem_of_getElem? (i := 1) rfl) rfl rfl dX5_writtenOf_6 ?_
  refine j_alen X 0 rfl i53 dX5_writtenOf_9 ?_
  refine j_icmp_ge (tgt := 22) X dX5_writtenOf_10 (by decide) (fun c => ?_) (fun c => ?_)
  · replace hf := f_t c hf
    refine j_iconst X (v := (0 : Int32)) rfl dX5_writtenOf_22 ?_
    exact j_iret X Y (f_s hf) rfl dX5_writtenOf_23
  replace hf := f_f c hf
  refine j_aload_n X 0 dX5_writtenOf_13 rfl rfl ?_
  refine j_get (ref := "ProxyVersions$State") (index := 28) (v := .ref (ad 53)) X oS0 inX5_writtenOf_X5 rfl 9 (by decide) (List.mem_of_getElem? (i := 1) rfl) rfl rfl dX5_writtenOf_14 ?_
  refine j_iload_n X 1 dX5_writtenOf_17 rfl rfl ?_
  obtain ⟨hi1, hf⟩ := f_c hf
  refine j_iald X 0 rfl i53 hi1 dX5_writtenOf_18 ?_
  refine j_goto (tgt := 23) X dX5_writtenOf_19 (by decide) ?_
  exact j_iret X Y (f_s hf) rfl dX5_writtenOf_23
abbrev rmX5_homeOf : Room := { frames := 0, cells := 0, slots := 0, locals := 0 }
theorem inX5_homeOf_X5 : ∀ w ∈ wsX50, w ∈ wsX5_homeOf := fun _ h => List.mem_cons_of_mem _ (List.mem_append_right _ h)
set_option maxRecDepth 100000 in
set_option maxHeartbeats 4000000 in
theorem c_X5_homeOf (hI : Inj 490 ad) {x1 : Int32} {w : Wd} {out : Int32} (hf : m_X5_homeOf x1 w = some out) : Met l yX5_homeOf wsX5_homeOf rmX5_homeOf (va_Pc [.ref (ad 50), .int x1] (PW D (tC cI cL cS) 490 ad (cellC cI cL cS ad) w)) (QWi D 490 ad (cellC cI cL cS ad) out w) 0 0 (AW 490 ad) := by
  refine mk_met (maxL := 2) (ret := (some .int)) RX5 hI (by decide) rfl rfl (Nat.le_of_ble_eq_true rfl) rfl rfl (fun p e s m args below meth c X Y => ?_)
  unfold m_X5_homeOf at hf
  refine j_iload_n X 1 dX5_homeOf_0 rfl rfl ?_
  refine j_if_lt (tgt := 22) X dX5_homeOf_1 (by decide) (fun c => ?_) (fun c => ?_)
  · replace hf := f_t c hf
    refine j_iconst X (v := (0 : Int32)) rfl dX5_homeOf_22 ?_
    exact j_iret X Y (f_s hf) rfl dX5_homeOf_23
  replace hf := f_f c hf
  refine j_iload_n X 1 dX5_homeOf_4 rfl rfl ?_
  refine j_aload_n X 0 dX5_homeOf_5 rfl rfl ?_
  refine j_get (ref := "ProxyVersions$State") (index := 25) (v := .ref (ad 52)) X oS0 inX5_homeOf_X5 rfl 8 (by decide) (List.mem_of_getElem? (i := 1) rfl) rfl rfl dX5_homeOf_6 ?_
  refine j_alen X 0 rfl i52 dX5_homeOf_9 ?_
  refine j_icmp_ge (tgt := 22) X dX5_homeOf_10 (by decide) (fun c => ?_) (fun c => ?_)
  · replace hf := f_t c hf
    refine j_iconst X (v := (0 : Int32)) rfl dX5_homeOf_22 ?_
    exact j_iret X Y (f_s hf) rfl dX5_homeOf_23
  replace hf := f_f c hf
  refine j_aload_n X 0 dX5_homeOf_13 rfl rfl ?_
  refine j_get (ref := "ProxyVersions$State") (index := 25) (v := .ref (ad 52)) X oS0 inX5_homeOf_X5 rfl 8 (by decide) (List.mem_of_getElem? (i := 1) rfl) rfl rfl dX5_homeOf_14 ?_
  refine j_iload_n X 1 dX5_homeOf_17 rfl rfl ?_
  obtain ⟨hi1, hf⟩ := f_c hf
  refine j_iald X 0 rfl i52 hi1 dX5_homeOf_18 ?_
  refine j_goto (tgt := 23) X dX5_homeOf_19 (by decide) ?_
  exact j_iret X Y (f_s hf) rfl dX5_homeOf_23
abbrev rmX5_setHomeOf : Room := { frames := 0, cells := 0, slots := 0, locals := 0 }
theorem inX5_setHomeOf_X5 : ∀ w ∈ wsX50, w ∈ wsX5_setHomeOf := fun _ h => List.mem_cons_of_mem _ (List.mem_append_right _ h)
set_option maxRecDepth 100000 in
set_option maxHeartbeats 4000000 in
theorem c_X5_setHomeOf (hI : Inj 490 ad) {x1 : Int32} {x2 : Int32} {w : Wd} {out : Wd} (hf : m_X5_setHomeOf x1 x2 w = some out) : Met l yX5_setHomeOf wsX5_setHomeOf rmX5_setHomeOf (va_Pc [.ref (ad 50), .int x1, .int x2] (PW D (tC cI cL cS) 490 ad (cellC cI cL cS ad) w)) (QWv D 490 ad (cellC cI cL cS ad) out) 0 0 (AW 490 ad) := by
  refine mk_met (maxL := 3) (ret := none) RX5 hI (by decide) rfl rfl (Nat.le_of_ble_eq_true rfl) rfl rfl (fun p e s m args below meth c X Y => ?_)
  unfold m_X5_setHomeOf at hf
  refine j_iload_n X 1 dX5_setHomeOf_0 rfl rfl ?_
  refine j_if_lt (tgt := 20) X dX5_setHomeOf_1 (by decide) (fun c => ?_) (fun c => ?_)
  · replace hf := f_t c hf
    exact j_vret X Y (f_s hf) dX5_setHomeOf_20
  replace hf := f_f c hf
  refine j_iload_n X 1 dX5_setHomeOf_4 rfl rfl ?_
  refine j_aload_n X 0 dX5_setHomeOf_5 rfl rfl ?_
  refine j_get (ref := "ProxyVersions$State") (index := 25) (v := .ref (ad 52)) X oS0 inX5_setHomeOf_X5 rfl 8 (by decide) (List.mem_of_getElem? (i := 1) rfl) rfl rfl dX5_setHomeOf_6 ?_
  refine j_alen X 0 rfl i52 dX5_setHomeOf_9 ?_
  refine j_icmp_ge (tgt := 20) X dX5_setHomeOf_10 (by decide) (fun c => ?_) (fun c => ?_)
  · replace hf := f_t c hf
    exact j_vret X Y (f_s hf) dX5_setHomeOf_20
  replace hf := f_f c hf
  refine j_aload_n X 0 dX5_setHomeOf_13 rfl rfl ?_
  refine j_get (ref := "ProxyVersions$State") (index := 25) (v := .ref (ad 52)) X oS0 inX5_setHomeOf_X5 rfl 8 (by decide) (List.mem_of_getElem? (i := 1) rfl) rfl rfl dX5_setHomeOf_14 ?_
  refine j_iload_n X 1 dX5_setHomeOf_17 rfl rfl ?_
  refine j_iload_n X 2 dX5_setHomeOf_18 rfl rfl ?_
  obtain ⟨hi1, hf⟩ := f_c hf
  obtain ⟨w2, ew2, hf⟩ := f_lt hf
  refine j_iast X 0 rfl i52 hi1 dX5_setHomeOf_19 ew2 ?_
  exact j_vret X Y (f_s hf) dX5_setHomeOf_20
abbrev rmX5_setCause : Room := { frames := 0, cells := 0, slots := 0, locals := 0 }
theorem inX5_setCause_X5 : ∀ w ∈ wsX50, w ∈ wsX5_setCause := fun _ h => List.mem_cons_of_mem _ (List.mem_append_right _ h)
set_option maxRecDepth 100000 in
set_option maxHeartbeats 4000000 in
theorem c_X5_setCause (hI : Inj 490 ad) {x1 : Int32} {x2 : Int32} {x3 : Int32} {x4 : Int32} {w : Wd} {out : Wd} (hf : m_X5_setCause x1 x2 x3 x4 w = some out) : Met l yX5_setCause wsX5_setCause rmX5_setCause (va_Pc [.ref (ad 50), .int x1, .int x2, .int x3, .int x4] (PW D (tC cI cL cS) 490 ad (cellC cI cL cS ad) w)) (QWv D 490 ad (cellC cI cL cS ad) out) 0 0 (AW 490 ad) := by
  refine mk_met (maxL := 6) (ret := none) RX5 hI (by decide) rfl rfl (Nat.le_of_ble_eq_true rfl) rfl rfl (fun p e s m args below meth c X Y => ?_)
  unfold m_X5_setCause at hf
  refine j_iload_n X 1 dX5_setCause_0 rfl rfl ?_
  refine j_bipush X (v := (24 : Int32)) (by decide) dX5_setCause_1 ?_
  refine j_imul X dX5_setCause_3 ?_
  refine j_iload_n X 2 dX5_setCause_4 rfl rfl ?_
  refine j_iadd X dX5_setCause_5 ?_
  refine j_iconst X (v := (1 : Int32)) rfl dX5_setCause_6 ?_
  refine j_isub X dX5_setCause_7 ?_
  refine j_iconst X (v := (4 : Int32)) rfl dX5_setCause_8 ?_
  refine j_imul X dX5_setCause_9 ?_
  refine j_iload_n X 3 dX5_setCause_10 rfl rfl ?_
  refine j_iadd X dX5_setCause_11 ?_
  obtain ⟨x5_1, ex5_1, hf⟩ := f_lt hf
  refine j_top ex5_1 ?_
  refine j_istore (lv' := [(0, .ref (ad 50)), (1, .int x1), (2, .int x2), (3, .int x3), (4, .int x4), (5, .int x5_1)]) X dX5_setCause_12 (by decide) rfl ?_
  refine j_iload X 5 dX5_setCause_14 rfl ?_
  refine j_if_lt (tgt := 38) X dX5_setCause_16 (by decide) (fun c => ?_) (fun c => ?_)
  · replace hf := f_t c hf
    exact j_vret X Y (f_s hf) dX5_setCause_38
  replace hf := f_f c hf
  refine j_iload X 5 dX5_setCause_19 rfl ?_
  refine j_aload_n X 0 dX5_setCause_21 rfl rfl ?_
  refine j_get (ref := "ProxyVersions$State") (index := 34) (v := .ref (ad 55)) X oS0 inX5_setCause_X5 rfl 11 (by decide) (List.mem_of_getElem? (i := 1) rfl) rfl rfl dX5_setCause_22 ?_
  refine j_alen X 0 rfl i55 dX5_setCause_25 ?_
  refine j_icmp_ge (tgt := 38) X dX5_setCause_26 (by decide) (fun c => ?_) (fun c => ?_)
  · replace hf := f_t c hf
    exact j_vret X Y (f_s hf) dX5_setCause_38
  replace hf := f_f c hf
  refine j_aload_n X 0 dX5_setCause_29 rfl rfl ?_
  refine j_get (ref := "ProxyVersions$State") (index := 34) (v := .ref (ad 55)) X oS0 inX5_setCause_X5 rfl 11 (by decide) (List.mem_of_getElem? (i := 1) rfl) rfl rfl dX5_setCause_30 ?_
  refine j_iload X 5 dX5_setCause_33 rfl ?_
  refine j_iload X 4 dX5_setCause_35 rfl ?_
  obtain ⟨hi2, hf⟩ := f_c hf
  obtain ⟨w3, ew3, hf⟩ := f_lt hf
  refine j_iast X 0 rfl i55 hi2 dX5_setCause_37 ew3 ?_
  exact j_vret X Y (f_s hf) dX5_setCause_38
abbrev rmX5_setWrittenOf : Room := { frames := 0, cells := 0, slots := 0, locals := 0 }
theorem inX5_setWrittenOf_X5 : ∀ w ∈ wsX50, w ∈ wsX5_setWrittenOf := fun _ h => List.mem_cons_of_mem _ (List.mem_append_right _ h)
set_option maxRecDepth 100000 in
set_option maxHeartbeats 4000000 in
theorem c_X5_setWrittenOf (hI : Inj 490 ad) {x1 : Int32} {x2 : Int32} {w : Wd} {out : Wd} (hf : m_X5_setWrittenOf x1 x2 w = some out) : Met l yX5_setWrittenOf wsX5_setWrittenOf rmX5_setWrittenOf (va_Pc [.ref (ad 50), .int x1, .int x2] (PW D (tC cI cL cS) 490 ad (cellC cI cL cS ad) w)) (QWv D 490 ad (cellC cI cL cS ad) out) 0 0 (AW 490 ad) := by
  refine mk_met (maxL := 3) (ret := none) RX5 hI (by decide) rfl rfl (Nat.le_of_ble_eq_true rfl) rfl rfl (fun p e s m args below meth c X Y => ?_)
  unfold m_X5_setWrittenOf at hf
  refine j_iload_n X 1 dX5_setWrittenOf_0 rfl rfl ?_
  refine j_if_lt (tgt := 20) X dX5_setWrittenOf_1 (by decide) (fun c => ?_) (fun c => ?_)
  · replace hf := f_t c hf
    exact j_vret X Y (f_s hf) dX5_setWrittenOf_20
  replace hf := f_f c hf
  refine j_iload_n X 1 dX5_setWrittenOf_4 rfl rfl ?_
  refine j_aload_n X 0 dX5_setWrittenOf_5 rfl rfl ?_
  refine j_get (ref := "ProxyVersions$State") (index := 28) (v := .ref (ad 53)) X oS0 inX5_setWrittenOf_X5 rfl 9 (by decide) (List.mem_of_getElem? (i := 1) rfl) rfl rfl dX5_setWrittenOf_6 ?_
  refine j_alen X 0 rfl i53 dX5_setWrittenOf_9 ?_
  refine j_icmp_ge (tgt := 20) X dX5_setWrittenOf_10 (by decide) (fun c => ?_) (fun c => ?_)
  · replace hf := f_t c hf
    exact j_vret X Y (f_s hf) dX5_setWrittenOf_20
  replace hf := f_f c hf
  refine j_aload_n X 0 dX5_setWrittenOf_13 rfl rfl ?_
  refine j_get (ref := "ProxyVersions$State") (index := 28) (v := .ref (ad 53)) X oS0 inX5_setWrittenOf_X5 rfl 9 (by decide) (List.mem_of_getElem? (i := 1) rfl) rfl rfl dX5_setWrittenOf_14 ?_
  refine j_iload_n X 1 dX5_setWrittenOf_17 rfl rfl ?_
  refine j_iload_n X 2 dX5_setWrittenOf_18 rfl rfl ?_
  obtain ⟨hi1, hf⟩ := f_c hf
  obtain ⟨w2, ew2, hf⟩ := f_lt hf
  refine j_iast X 0 rfl i53 hi1 dX5_setWrittenOf_19 ew2 ?_
  exact j_vret X Y (f_s hf) dX5_setWrittenOf_20
abbrev rmX5_rangesWith : Room := { frames := 2, cells := 0, slots := 0, locals := 40 }
set_option maxRecDepth 100000 in
set_option maxHeartbeats 4000000 in
theorem t_X5_rangesWith_j40 (X : CX p rmX5_rangesWith s m args c cX5_rangesWith 7 RX5 wsX5_rangesWith D (tC cI cL cS) 490 ad) (Y : RX meth (some .int)) {x1 : Int32} {x2 : Int32} {x3 : Int32} {x5 : Int32} {s0 : Int32} {s1 : Int32} {w : Wd} {kc : Int32 → Int32 → Option (Int32)} {out : Int32} (hf : m_X5_rangesWith_j40 x1 x2 x3 x5 s0 s1 w kc = some out) (hk_kc : ∀ (y4 : Int32) (y5 : Int32), kc y4 y5 = some out → WJ p l e rmX5_rangesWith s m args below meth c (MQ below (QWi D 490 ad (cellC cI cL cS ad) out w) args s 0 0 (AW 490 ad)) 7 D 490 ad (cellC cI cL cS ad) w 6 [(0, .ref (ad 50)), (1, .int x1), (2, .int x2), (3, .int x3), (4, .int y4), (5, .int y5)] []) : WJ p l e rmX5_rangesWith s m args below meth c (MQ below (QWi D 490 ad (cellC cI cL cS ad) out w) args s 0 0 (AW 490 ad)) 7 D 490 ad (cellC cI cL cS ad) w 40 [(0, .ref (ad 50)), (1, .int x1), (2, .int x2), (3, .int x3), (5, .int x5)] [.int s1, .int s0] := by
  unfold m_X5_rangesWith_j40 at hf
  obtain ⟨o1, ho1, hf⟩ := f_bd hf
  refine j_callSi X [.int s1] (c_X6_rangesIn X.2.2.2.2.2.2.2 ho1) (va_cwS 1 X.2.2.2.2.1 gX5_rangesWith_X6_rangesIn rfl rfl rfl (by decide +kernel) ⟨Nat.le_of_ble_eq_true rfl, Nat.le_of_ble_eq_true rfl⟩) rfl rfl (Nat.le_of_ble_eq_true rfl) dX5_rangesWith_40 ?_
  refine j_iadd X dX5_rangesWith_43 ?_
  obtain ⟨x4_2, ex4_2, hf⟩ := f_lt hf
  refine j_top ex4_2 ?_
  refine j_istore (lv' := [(0, .ref (ad 50)), (1, .int x1), (2, .int x2), (3, .int x3), (4, .int x4_2), (5, .int x5)]) X dX5_rangesWith_44 (by decide) rfl ?_
  refine j_iinc (v := (x5 + (1 : Int32))) (lv' := [(0, .ref (ad 50)), (1, .int x1), (2, .int x2), (3, .int x3), (4, .int x4_2), (5, .int (x5 + (1 : Int32)))]) X 5 dX5_rangesWith_46 rfl rfl (by decide) rfl ?_
  refine j_goto (tgt := 6) X dX5_rangesWith_49 (by decide) ?_
  exact hk_kc _ _ hf
set_option maxRecDepth 100000 in
set_option maxHeartbeats 4000000 in
theorem t_X5_rangesWith_L6 (X : CX p rmX5_rangesWith s m args c cX5_rangesWith 7 RX5 wsX5_rangesWith D (tC cI cL cS) 490 ad) (Y : RX meth (some .int)) {x1 : Int32} {x2 : Int32} {x3 : Int32} {w : Wd} {out : Int32} : ∀ (n : Nat) (x4 : Int32) (x5 : Int32), m_X5_rangesWith_L6 x1 x2 x3 w n x4 x5 = some out → WJ p l e rmX5_rangesWith s m args below meth c (MQ below (QWi D 490 ad (cellC cI cL cS ad) out w) args s 0 0 (AW 490 ad)) 7 D 490 ad (cellC cI cL cS ad) w 6 [(0, .ref (ad 50)), (1, .int x1), (2, .int x2), (3, .int x3), (4, .int x4), (5, .int x5)] [] := by
  intro n
  induction n with
  | zero => intro x4 x5 hf; exact f_n hf
  | succ n ih =>
    intro x4 x5 hf
    rw [m_X5_rangesWith_L6] at hf
    refine j_iload X 5 dX5_rangesWith_6 rfl ?_
    refine j_iconst X (v := (4 : Int32)) rfl dX5_rangesWith_8 ?_
    refine j_icmp_ge (tgt := 52) X dX5_rangesWith_9 (by decide) (fun c => ?_) (fun c => ?_)
    · replace hf := f_t c hf
      refine j_iload X 4 dX5_rangesWith_52 rfl ?_
      exact j_iret X Y (f_s hf) rfl dX5_rangesWith_54
    replace hf := f_f c hf
    refine j_aload_n X 0 dX5_rangesWith_12 rfl rfl ?_
    refine j_iload_n X 1 dX5_rangesWith_13 rfl rfl ?_
    refine j_iload X 5 dX5_rangesWith_14 rfl ?_
    obtain ⟨o1, ho1, hf⟩ := f_bd hf
    refine j_callVi X oS0 rfl rfl [.int x1, .int x5] (c_X5_knownOf X.2.2.2.2.2.2.2 ho1) (cwV 2 X.2.2.2.2.1 gX5_rangesWith_X5_knownOf rfl rfl rfl (by decide +kernel) ⟨Nat.le_of_ble_eq_true rfl, Nat.le_of_ble_eq_true rfl⟩) rfl rfl (Nat.le_of_ble_eq_true rfl) dX5_rangesWith_16 ?_
    refine j_istore (lv' := [(0, .ref (ad 50)), (1, .int x1), (2, .int x2), (3, .int x3), (4, .int x4), (5, .int x5), (6, .int o1)]) X dX5_rangesWith_19 (by decide) rfl ?_
    refine j_iload X 4 dX5_rangesWith_21 rfl ?_
    refine j_iload X 5 dX5_rangesWith_23 rfl ?_
    refine j_iload_n X 2 dX5_rangesWith_25 rfl rfl ?_
    refine j_icmp_ne (tgt := 38) X dX5_rangesWith_26 (by decide) (fun c => ?_) (fun c => ?_)
    · replace hf := f_t c hf
      refine j_iload X 6 dX5_rangesWith_38 rfl ?_
      refine j_sub [0, 1, 2, 3, 5] rfl ?_
      exact t_X5_rangesWith_j40 X Y hf ih
    replace hf := f_fn c hf
    refine j_iload X 6 dX5_rangesWith_29 rfl ?_
    refine j_iload_n X 3 dX5_rangesWith_31 rfl rfl ?_
    obtain ⟨o2, ho2, hf⟩ := f_bd hf
    refine j_callSi X [.int o1, .int x3] (c_X6_with X.2.2.2.2.2.2.2 ho2) (va_cwS 2 X.2.2.2.2.1 gX5_rangesWith_X6_with rfl rfl rfl (by decide +kernel) ⟨Nat.le_of_ble_eq_true rfl, Nat.le_of_ble_eq_true rfl⟩) rfl rfl (Nat.le_of_ble_eq_true rfl) dX5_rangesWith_32 ?_
    refine j_goto (tgt := 40) X dX5_rangesWith_35 (by decide) ?_
    refine j_sub [0, 1, 2, 3, 5] rfl ?_
    exact t_X5_rangesWith_j40 X Y hf ih
set_option maxRecDepth 100000 in
set_option maxHeartbeats 4000000 in
theorem c_X5_rangesWith (hI : Inj 490 ad) {x1 : Int32} {x2 : Int32} {x3 : Int32} {w : Wd} {out : Int32} (hf : m_X5_rangesWith x1 x2 x3 w = some out) : Met l yX5_rangesWith wsX5_rangesWith rmX5_rangesWith (va_Pc [.ref (ad 50), .int x1, .int x2, .int x3] (PW D (tC cI cL cS) 490 ad (cellC cI cL cS ad) w)) (QWi D 490 ad (cellC cI cL cS ad) out w) 0 0 (AW 490 ad) := by
  refine mk_met (maxL := 7) (ret := (some .int)) RX5 hI (by decide) rfl rfl (Nat.le_of_ble_eq_true rfl) rfl rfl (fun p e s m args below meth c X Y => ?_)
  unfold m_X5_rangesWith at hf
  refine j_iconst X (v := (0 : Int32)) rfl dX5_rangesWith_0 ?_
  refine j_istore (lv' := [(0, .ref (ad 50)), (1, .int x1), (2, .int x2), (3, .int x3), (4, .int (0 : Int32))]) X dX5_rangesWith_1 (by decide) rfl ?_
  refine j_iconst X (v := (0 : Int32)) rfl dX5_rangesWith_3 ?_
  refine j_istore (lv' := [(0, .ref (ad 50)), (1, .int x1), (2, .int x2), (3, .int x3), (4, .int (0 : Int32)), (5, .int (0 : Int32))]) X dX5_rangesWith_4 (by decide) rfl ?_
  refine t_X5_rangesWith_L6 X Y _ _ _ hf
abbrev rmX5_addKnown : Room := { frames := 1, cells := 0, slots := 0, locals := 21 }
theorem inX5_addKnown_X5 : ∀ w ∈ wsX50, w ∈ wsX5_addKnown := fun _ h => List.mem_cons_of_mem _ (List.mem_append_right _ h)
set_option maxRecDepth 100000 in
set_option maxHeartbeats 4000000 in
theorem c_X5_addKnown (hI : Inj 490 ad) {x1 : Int32} {x2 : Int32} {x3 : Int32} {w : Wd} {out : Wd} (hf : m_X5_addKnown x1 x2 x3 w = some out) : Met l yX5_addKnown wsX5_addKnown rmX5_addKnown (va_Pc [.ref (ad 50), .int x1, .int x2, .int x3] (PW D (tC cI cL cS) 490 ad (cellC cI cL cS ad) w)) (QWv D 490 ad (cellC cI cL cS ad) out) 0 0 (AW 490 ad) := by
  refine mk_met (maxL := 5) (ret := none) RX5 hI (by decide) rfl rfl (Nat.le_of_ble_eq_true rfl) rfl rfl (fun p e s m args below meth c X Y => ?_)
  unfold m_X5_addKnown at hf
  refine j_iload_n X 1 dX5_addKnown_0 rfl rfl ?_
  refine j_iconst X (v := (4 : Int32)) rfl dX5_addKnown_1 ?_
  refine j_imul X dX5_addKnown_2 ?_
  refine j_iload_n X 2 dX5_addKnown_3 rfl rfl ?_
  refine j_iadd X dX5_addKnown_4 ?_
  obtain ⟨x4_1, ex4_1, hf⟩ := f_lt hf
  refine j_top ex4_1 ?_
  refine j_istore (lv' := [(0, .ref (ad 50)), (1, .int x1), (2, .int x2), (3, .int x3), (4, .int x4_1)]) X dX5_addKnown_5 (by decide) rfl ?_
  refine j_iload X 4 dX5_addKnown_7 rfl ?_
  refine j_if_lt (tgt := 40) X dX5_addKnown_9 (by decide) (fun c => ?_) (fun c => ?_)
  · replace hf := f_t c hf
    exact j_vret X Y (f_s hf) dX5_addKnown_40
  replace hf := f_f c hf
  refine j_iload X 4 dX5_addKnown_12 rfl ?_
  refine j_aload_n X 0 dX5_addKnown_14 rfl rfl ?_
  refine j_get (ref := "ProxyVersions$State") (index := 31) (v := .ref (ad 54)) X oS0 inX5_addKnown_X5 rfl 10 (by decide) (List.mem_of_getElem? (i := 1) rfl) rfl rfl dX5_addKnown_15 ?_
  refine j_alen X 0 rfl i54 dX5_addKnown_18 ?_
  refine j_icmp_ge (tgt := 40) X dX5_addKnown_19 (by decide) (fun c => ?_) (fun c => ?_)
  · replace hf := f_t c hf
    exact j_vret X Y (f_s hf) dX5_addKnown_40
  replace hf := f_f c hf
  refine j_aload_n X 0 dX5_addKnown_22 rfl rfl ?_
  refine j_get (ref := "ProxyVersions$State") (index := 31) (v := .ref (ad 54)) X oS0 inX5_addKnown_X5 rfl 10 (by decide) (List.mem_of_getElem? (i := 1) rfl) rfl rfl dX5_addKnown_23 ?_
  refine j_iload X 4 dX5_addKnown_26 rfl ?_
  refine j_aload_n X 0 dX5_addKnown_28 rfl rfl ?_
  refine j_get (ref := "ProxyVersions$State") (index := 31) (v := .ref (ad 54)) X oS0 inX5_addKnown_X5 rfl 10 (by decide) (List.mem_of_getElem? (i := 1) rfl) rfl rfl dX5_addKnown_29 ?_
  refine j_iload X 4 dX5_addKnown_32 rfl ?_
  obtain ⟨hi2, hf⟩ := f_c hf
  refine j_iald X 0 rfl i54 hi2 dX5_addKnown_34 ?_
  refine j_iload_n X 3 dX5_addKnown_35 rfl rfl ?_
  obtain ⟨o3, ho3, hf⟩ := f_bd hf
  refine j_callSi X [.int (w 54 x4_1.toNatClampNeg), .int x3] (c_X6_with X.2.2.2.2.2.2.2 ho3) (va_cwS 2 X.2.2.2.2.1 gX5_addKnown_X6_with rfl rfl rfl (by decide +kernel) ⟨Nat.le_of_ble_eq_true rfl, Nat.le_of_ble_eq_true rfl⟩) rfl rfl (Nat.le_of_ble_eq_true rfl) dX5_addKnown_36 ?_
  obtain ⟨hi4, hf⟩ := f_c hf
  obtain ⟨w5, ew5, hf⟩ := f_lt hf
  refine j_iast X 0 rfl i54 hi4 dX5_addKnown_39 ew5 ?_
  exact j_vret X Y (f_s hf) dX5_addKnown_40
abbrev rmX5_contentsOf : Room := { frames := 1, cells := 0, slots := 0, locals := 21 }
theorem inX5_contentsOf_X5 : ∀ w ∈ wsX50, w ∈ wsX5_contentsOf := fun _ h => List.mem_cons_of_mem _ (List.mem_append_right _ h)
set_option maxRecDepth 100000 in
set_option maxHeartbeats 4000000 in
theorem t_X5_contentsOf_j26 (X : CX p rmX5_contentsOf s m args c cX5_contentsOf 2 RX5 wsX5_contentsOf D (tC cI cL cS) 490 ad) (Y : RX meth (some (.object "ProxyVersions$Line"))) {w : Wd} {out : Nat} (hf : m_X5_contentsOf_j26 w = some out) : WJ p l e rmX5_contentsOf s m args below meth c (MQ below (QWr D 490 ad (cellC cI cL cS ad) out w) args s 0 0 (AW 490 ad)) 2 D 490 ad (cellC cI cL cS ad) w 26 [(0, .ref (ad 50))] [] := by
  unfold m_X5_contentsOf_j26 at hf
  refine j_aload_n X 0 dX5_contentsOf_26 rfl rfl ?_
  refine j_get (ref := "ProxyVersions$State") (index := 52) (v := .ref (ad 48)) X oS0 inX5_contentsOf_X5 rfl 15 (by decide) (List.mem_of_getElem? (i := 2) rfl) rfl rfl dX5_contentsOf_27 ?_
  exact j_aret X Y (f_s hf) rfl dX5_contentsOf_30
set_option maxRecDepth 100000 in
set_option maxHeartbeats 4000000 in
theorem c_X5_contentsOf (hI : Inj 490 ad) {x1 : Int32} {w : Wd} {out : Nat} (hf : m_X5_contentsOf x1 w = some out) : Met l yX5_contentsOf wsX5_contentsOf rmX5_contentsOf (va_Pc [.ref (ad 50), .int x1] (PW D (tC cI cL cS) 490 ad (cellC cI cL cS ad) w)) (QWr D 490 ad (cellC cI cL cS ad) out w) 0 0 (AW 490 ad) := by
  refine mk_met (maxL := 2) (ret := (some (.object "ProxyVersions$Line"))) RX5 hI (by decide) rfl rfl (Nat.le_of_ble_eq_true rfl) rfl rfl (fun p e s m args below meth c X Y => ?_)
  unfold m_X5_contentsOf at hf
  refine j_aload_n X 0 dX5_contentsOf_0 rfl rfl ?_
  refine j_iload_n X 1 dX5_contentsOf_1 rfl rfl ?_
  obtain ⟨o1, ho1, hf⟩ := f_bd hf
  refine j_callVi X oS0 rfl rfl [.int x1] (c_X5_hasProxy X.2.2.2.2.2.2.2 ho1) (cwV 1 X.2.2.2.2.1 gX5_contentsOf_X5_hasProxy rfl rfl rfl (by decide +kernel) ⟨Nat.le_of_ble_eq_true rfl, Nat.le_of_ble_eq_true rfl⟩) rfl rfl (Nat.le_of_ble_eq_true rfl) dX5_contentsOf_2 ?_
  refine j_if_eq (tgt := 26) X dX5_contentsOf_5 (by decide) (fun c => ?_) (fun c => ?_)
  · replace hf := f_t c hf
    refine j_sub [0] rfl ?_
    exact t_X5_contentsOf_j26 X Y hf
  replace hf := f_f c hf
  refine j_iload_n X 1 dX5_contentsOf_8 rfl rfl ?_
  refine j_aload_n X 0 dX5_contentsOf_9 rfl rfl ?_
  refine j_get (ref := "ProxyVersions$State") (index := 39) (v := .ref (ad 56)) X oS0 inX5_contentsOf_X5 rfl 12 (by decide) (List.mem_of_getElem? (i := 1) rfl) rfl rfl dX5_contentsOf_10 ?_
  refine j_alenQ X 1 rfl q56 dX5_contentsOf_13 ?_
  refine j_icmp_ge (tgt := 26) X dX5_contentsOf_14 (by decide) (fun c => ?_) (fun c => ?_)
  · replace hf := f_t c hf
    refine j_sub [0] rfl ?_
    exact t_X5_contentsOf_j26 X Y hf
  replace hf := f_f c hf
  refine j_aload_n X 0 dX5_contentsOf_17 rfl rfl ?_
  refine j_get (ref := "ProxyVersions$State") (index := 39) (v := .ref (ad 56)) X oS0 inX5_contentsOf_X5 rfl 12 (by decide) (List.mem_of_getElem? (i := 1) rfl) rfl rfl dX5_contentsOf_18 ?_
  refine j_iload_n X 1 dX5_contentsOf_21 rfl rfl ?_
  obtain ⟨hi2, hf⟩ := f_c hf
  refine j_aald X 1 rfl q56 hi2 dX5_contentsOf_22 ?_
  refine j_goto (tgt := 30) X dX5_contentsOf_23 (by decide) ?_
  exact j_aret X Y (f_s hf) rfl dX5_contentsOf_30
abbrev rmX5_parentOf : Room := { frames := 0, cells := 0, slots := 0, locals := 0 }
theorem inX5_parentOf_X5 : ∀ w ∈ wsX50, w ∈ wsX5_parentOf := fun _ h => List.mem_cons_of_mem _ (List.mem_append_right _ h)
set_option maxRecDepth 100000 in
set_option maxHeartbeats 4000000 in
theorem c_X5_parentOf (hI : Inj 490 ad) {x1 : Int32} {w : Wd} {out : Int32} (hf : m_X5_parentOf x1 w = some out) : Met l yX5_parentOf wsX5_parentOf rmX5_parentOf (va_Pc [.ref (ad 50), .int x1] (PW D (tC cI cL cS) 490 ad (cellC cI cL cS ad) w)) (QWi D 490 ad (cellC cI cL cS ad) out w) 0 0 (AW 490 ad) := by
  refine mk_met (maxL := 2) (ret := (some .int)) RX5 hI (by decide) rfl rfl (Nat.le_of_ble_eq_true rfl) rfl rfl (fun p e s m args below meth c X Y => ?_)
  unfold m_X5_parentOf at hf
  refine j_iload_n X 1 dX5_parentOf_0 rfl rfl ?_
  refine j_if_lt (tgt := 22) X dX5_parentOf_1 (by decide) (fun c => ?_) (fun c => ?_)
  · replace hf := f_t c hf
    refine j_iconst X (v := (0 : Int32)) rfl dX5_parentOf_22 ?_
    exact j_iret X Y (f_s hf) rfl dX5_parentOf_23
  replace hf := f_f c hf
  refine j_iload_n X 1 dX5_parentOf_4 rfl rfl ?_
  refine j_aload_n X 0 dX5_parentOf_5 rfl rfl ?_
  refine j_get (ref := "ProxyVersions$State") (index := 21) (v := .ref (ad 51)) X oS0 inX5_parentOf_X5 rfl 7 (by decide) (List.mem_of_getElem? (i := 1) rfl) rfl rfl dX5_parentOf_6 ?_
  refine j_alen X 0 rfl i51 dX5_parentOf_9 ?_
  refine j_icmp_ge (tgt := 22) X dX5_parentOf_10 (by decide) (fun c => ?_) (fun c => ?_)
  · replace hf := f_t c hf
    refine j_iconst X (v := (0 : Int32)) rfl dX5_parentOf_22 ?_
    exact j_iret X Y (f_s hf) rfl dX5_parentOf_23
  replace hf := f_f c hf
  refine j_aload_n X 0 dX5_parentOf_13 rfl rfl ?_
  refine j_get (ref := "ProxyVersions$State") (index := 21) (v := .ref (ad 51)) X oS0 inX5_parentOf_X5 rfl 7 (by decide) (List.mem_of_getElem? (i := 1) rfl) rfl rfl dX5_parentOf_14 ?_
  refine j_iload_n X 1 dX5_parentOf_17 rfl rfl ?_
  obtain ⟨hi1, hf⟩ := f_c hf
  refine j_iald X 0 rfl i51 hi1 dX5_parentOf_18 ?_
  refine j_goto (tgt := 23) X dX5_parentOf_19 (by decide) ?_
  exact j_iret X Y (f_s hf) rfl dX5_parentOf_23
abbrev rmX5_hasChild : Room := { frames := 0, cells := 0, slots := 0, locals := 0 }
theorem inX5_hasChild_X5 : ∀ w ∈ wsX50, w ∈ wsX5_hasChild := fun _ h => List.mem_cons_of_mem _ (List.mem_append_right _ h)
set_option maxRecDepth 100000 in
set_option maxHeartbeats 4000000 in
theorem c_X5_hasChild (hI : Inj 490 ad) {x1 : Int32} {w : Wd} {out : Int32} (hf : m_X5_hasChild x1 w = some out) : Met l yX5_hasChild wsX5_hasChild rmX5_hasChild (va_Pc [.ref (ad 50), .int x1] (PW D (tC cI cL cS) 490 ad (cellC cI cL cS ad) w)) (QWi D 490 ad (cellC cI cL cS ad) out w) 0 0 (AW 490 ad) := by
  refine mk_met (maxL := 2) (ret := (some .boolean)) RX5 hI (by decide) rfl rfl (Nat.le_of_ble_eq_true rfl) rfl rfl (fun p e s m args below meth c X Y => ?_)
  unfold m_X5_hasChild at hf
  refine j_iload_n X 1 dX5_hasChild_0 rfl rfl ?_
  refine j_if_le (tgt := 16) X dX5_hasChild_1 (by decide) (fun c => ?_) (fun c => ?_)
  · replace hf := f_t c hf
    refine j_iconst X (v := (0 : Int32)) rfl dX5_hasChild_16 ?_
    exact j_bret X Y (Eq.trans (by decide : (0 : Int32) &&& 1 = (0 : Int32)) (f_s hf)) rfl dX5_hasChild_17
  replace hf := f_f c hf
  refine j_iload_n X 1 dX5_hasChild_4 rfl rfl ?_
  refine j_aload_n X 0 dX5_hasChild_5 rfl rfl ?_
  refine j_get (ref := "ProxyVersions$State") (index := 9) (v := .int (w 50 0)) X oS0 inX5_hasChild_X5 rfl 0 (by decide) (List.mem_of_getElem? (i := 1) rfl) rfl rfl dX5_hasChild_6 ?_
  refine j_icmp_ge (tgt := 16) X dX5_hasChild_9 (by decide) (fun c => ?_) (fun c => ?_)
  · replace hf := f_t c hf
    refine j_iconst X (v := (0 : Int32)) rfl dX5_hasChild_16 ?_
    exact j_bret X Y (Eq.trans (by decide : (0 : Int32) &&& 1 = (0 : Int32)) (f_s hf)) rfl dX5_hasChild_17
  replace hf := f_f c hf
  refine j_iconst X (v := (1 : Int32)) rfl dX5_hasChild_12 ?_
  refine j_goto (tgt := 17) X dX5_hasChild_13 (by decide) ?_
  exact j_bret X Y (Eq.trans (by decide : (1 : Int32) &&& 1 = (1 : Int32)) (f_s hf)) rfl dX5_hasChild_17
abbrev rmX5_queueOf : Room := { frames := 1, cells := 0, slots := 0, locals := 21 }
theorem inX5_queueOf_X5 : ∀ w ∈ wsX50, w ∈ wsX5_queueOf := fun _ h => List.mem_cons_of_mem _ (List.mem_append_right _ h)
set_option maxRecDepth 100000 in
set_option maxHeartbeats 4000000 in
theorem t_X5_queueOf_j14 (X : CX p rmX5_queueOf s m args c cX5_queueOf 3 RX5 wsX5_queueOf D (tC cI cL cS) 490 ad) (Y : RX meth (some (.object "ProxyVersions$Line"))) {w : Wd} {out : Nat} (hf : m_X5_queueOf_j14 w = some out) : WJ p l e rmX5_queueOf s m args below meth c (MQ below (QWr D 490 ad (cellC cI cL cS ad) out w) args s 0 0 (AW 490 ad)) 3 D 490 ad (cellC cI cL cS ad) w 14 [(0, .ref (ad 50))] [] := by
  unfold m_X5_queueOf_j14 at hf
  refine j_aload_n X 0 dX5_queueOf_14 rfl rfl ?_
  refine j_get (ref := "ProxyVersions$State") (index := 52) (v := .ref (ad 48)) X oS0 inX5_queueOf_X5 rfl 15 (by decide) (List.mem_of_getElem? (i := 1) rfl) rfl rfl dX5_queueOf_15 ?_
  exact j_aret X Y (f_s hf) rfl dX5_queueOf_18
set_option maxRecDepth 100000 in
set_option maxHeartbeats 4000000 in
theorem c_X5_queueOf (hI : Inj 490 ad) {x1 : Int32} {x2 : Int32} {w : Wd} {out : Nat} (hf : m_X5_queueOf x1 x2 w = some out) : Met l yX5_queueOf wsX5_queueOf rmX5_queueOf (va_Pc [.ref (ad 50), .int x1, .int x2] (PW D (tC cI cL cS) 490 ad (cellC cI cL cS ad) w)) (QWr D 490 ad (cellC cI cL cS ad) out w) 0 0 (AW 490 ad) := by
  refine mk_met (maxL := 3) (ret := (some (.object "ProxyVersions$Line"))) RX5 hI (by decide) rfl rfl (Nat.le_of_ble_eq_true rfl) rfl rfl (fun p e s m args below meth c X Y => ?_)
  unfold m_X5_queueOf at hf
  refine j_aload_n X 0 dX5_queueOf_0 rfl rfl ?_
  refine j_iload_n X 1 dX5_queueOf_1 rfl rfl ?_
  obtain ⟨o1, ho1, hf⟩ := f_bd hf
  refine j_callVi X oS0 rfl rfl [.int x1] (c_X5_hasChild X.2.2.2.2.2.2.2 ho1) (cwV 1 X.2.2.2.2.1 gX5_queueOf_X5_hasChild rfl rfl rfl (by decide +kernel) ⟨Nat.le_of_ble_eq_true rfl, Nat.le_of_ble_eq_true rfl⟩) rfl rfl (Nat.le_of_ble_eq_true rfl) dX5_queueOf_2 ?_
  refine j_if_eq (tgt := 14) X dX5_queueOf_5 (by decide) (fun c => ?_) (fun c => ?_)
  · replace hf := f_t c hf
    refine j_sub [0] rfl ?_
    exact t_X5_queueOf_j14 X Y hf
  replace hf := f_f c hf
  refine j_iload_n X 1 dX5_queueOf_8 rfl rfl ?_
  refine j_bipush X (v := (8 : Int32)) (by decide) dX5_queueOf_9 ?_
  refine j_icmp_lt (tgt := 19) X dX5_queueOf_11 (by decide) (fun c => ?_) (fun c => ?_)
  · replace hf := f_t c hf
    refine j_iload_n X 2 dX5_queueOf_19 rfl rfl ?_
    refine j_if_ne (tgt := 32) X dX5_queueOf_20 (by decide) (fun c => ?_) (fun c => ?_)
    · replace hf := f_t c hf
      refine j_aload_n X 0 dX5_queueOf_32 rfl rfl ?_
      refine j_get (ref := "ProxyVersions$State") (index := 46) (v := .ref (ad 58)) X oS0 inX5_queueOf_X5 rfl 14 (by decide) (List.mem_of_getElem? (i := 3) rfl) rfl rfl dX5_queueOf_33 ?_
      refine j_iload_n X 1 dX5_queueOf_36 rfl rfl ?_
      obtain ⟨hi2, hf⟩ := f_c hf
      refine j_aald X 1 rfl q58 hi2 dX5_queueOf_37 ?_
      exact j_aret X Y (f_s hf) rfl dX5_queueOf_38
    replace hf := f_fn c hf
    refine j_aload_n X 0 dX5_queueOf_23 rfl rfl ?_
    refine j_get (ref := "ProxyVersions$State") (index := 43) (v := .ref (ad 57)) X oS0 inX5_queueOf_X5 rfl 13 (by decide) (List.mem_of_getElem? (i := 2) rfl) rfl rfl dX5_queueOf_24 ?_
    refine j_iload_n X 1 dX5_queueOf_27 rfl rfl ?_
    obtain ⟨hi3, hf⟩ := f_c hf
    refine j_aald X 1 rfl q57 hi3 dX5_queueOf_28 ?_
    refine j_goto (tgt := 38) X dX5_queueOf_29 (by decide) ?_
    exact j_aret X Y (f_s hf) rfl dX5_queueOf_38
  replace hf := f_f c hf
  refine j_sub [0] rfl ?_
  exact t_X5_queueOf_j14 X Y hf
abbrev rmX5_isChildOf : Room := { frames := 1, cells := 0, slots := 0, locals := 21 }
set_option maxRecDepth 100000 in
set_option maxHeartbeats 4000000 in
theorem c_X5_isChildOf (hI : Inj 490 ad) {x1 : Int32} {x2 : Int32} {w : Wd} {out : Int32} (hf : m_X5_isChildOf x1 x2 w = some out) : Met l yX5_isChildOf wsX5_isChildOf rmX5_isChildOf (va_Pc [.ref (ad 50), .int x1, .int x2] (PW D (tC cI cL cS) 490 ad (cellC cI cL cS ad) w)) (QWi D 490 ad (cellC cI cL cS ad) out w) 0 0 (AW 490 ad) := by
  refine mk_met (maxL := 3) (ret := (some .boolean)) RX5 hI (by decide) rfl rfl (Nat.le_of_ble_eq_true rfl) rfl rfl (fun p e s m args below meth c X Y => ?_)
  unfold m_X5_isChildOf at hf
  refine j_aload_n X 0 dX5_isChildOf_0 rfl rfl ?_
  refine j_iload_n X 1 dX5_isChildOf_1 rfl rfl ?_
  obtain ⟨o1, ho1, hf⟩ := f_bd hf
  refine j_callVi X oS0 rfl rfl [.int x1] (c_X5_hasChild X.2.2.2.2.2.2.2 ho1) (cwV 1 X.2.2.2.2.1 gX5_isChildOf_X5_hasChild rfl rfl rfl (by decide +kernel) ⟨Nat.le_of_ble_eq_true rfl, Nat.le_of_ble_eq_true rfl⟩) rfl rfl (Nat.le_of_ble_eq_true rfl) dX5_isChildOf_2 ?_
  refine j_if_eq (tgt := 21) X dX5_isChildOf_5 (by decide) (fun c => ?_) (fun c => ?_)
  · replace hf := f_t c hf
    refine j_iconst X (v := (0 : Int32)) rfl dX5_isChildOf_21 ?_
    exact j_bret X Y (Eq.trans (by decide : (0 : Int32) &&& 1 = (0 : Int32)) (f_s hf)) rfl dX5_isChildOf_22
  replace hf := f_f c hf
  refine j_aload_n X 0 dX5_isChildOf_8 rfl rfl ?_
  refine j_iload_n X 1 dX5_isChildOf_9 rfl rfl ?_
  obtain ⟨o2, ho2, hf⟩ := f_bd hf
  refine j_callVi X oS0 rfl rfl [.int x1] (c_X5_parentOf X.2.2.2.2.2.2.2 ho2) (cwV 1 X.2.2.2.2.1 gX5_isChildOf_X5_parentOf rfl rfl rfl (by decide +kernel) ⟨Nat.le_of_ble_eq_true rfl, Nat.le_of_ble_eq_true rfl⟩) rfl rfl (Nat.le_of_ble_eq_true rfl) dX5_isChildOf_10 ?_
  refine j_iload_n X 2 dX5_isChildOf_13 rfl rfl ?_
  refine j_icmp_ne (tgt := 21) X dX5_isChildOf_14 (by decide) (fun c => ?_) (fun c => ?_)
  · replace hf := f_t c hf
    refine j_iconst X (v := (0 : Int32)) rfl dX5_isChildOf_21 ?_
    exact j_bret X Y (Eq.trans (by decide : (0 : Int32) &&& 1 = (0 : Int32)) (f_s hf)) rfl dX5_isChildOf_22
  replace hf := f_fn c hf
  refine j_iconst X (v := (1 : Int32)) rfl dX5_isChildOf_17 ?_
  refine j_goto (tgt := 22) X dX5_isChildOf_18 (by decide) ?_
  exact j_bret X Y (Eq.trans (by decide : (1 : Int32) &&& 1 = (1 : Int32)) (f_s hf)) rfl dX5_isChildOf_22
abbrev rmX5_hasQueue : Room := { frames := 1, cells := 0, slots := 0, locals := 21 }
set_option maxRecDepth 100000 in
set_option maxHeartbeats 4000000 in
theorem t_X5_hasQueue_j17 (X : CX p rmX5_hasQueue s m args c cX5_hasQueue 3 RX5 wsX5_hasQueue D (tC cI cL cS) 490 ad) (Y : RX meth (some .boolean)) {w : Wd} {out : Int32} (hf : m_X5_hasQueue_j17 w = some out) : WJ p l e rmX5_hasQueue s m args below meth c (MQ below (QWi D 490 ad (cellC cI cL cS ad) out w) args s 0 0 (AW 490 ad)) 3 D 490 ad (cellC cI cL cS ad) w 17 [] [] := by
  unfold m_X5_hasQueue_j17 at hf
  refine j_iconst X (v := (1 : Int32)) rfl dX5_hasQueue_17 ?_
  refine j_goto (tgt := 22) X dX5_hasQueue_18 (by decide) ?_
  exact j_bret X Y (Eq.trans (by decide : (1 : Int32) &&& 1 = (1 : Int32)) (f_s hf)) rfl dX5_hasQueue_22
set_option maxRecDepth 100000 in
set_option maxHeartbeats 4000000 in
theorem c_X5_hasQueue (hI : Inj 490 ad) {x1 : Int32} {x2 : Int32} {w : Wd} {out : Int32} (hf : m_X5_hasQueue x1 x2 w = some out) : Met l yX5_hasQueue wsX5_hasQueue rmX5_hasQueue (va_Pc [.ref (ad 50), .int x1, .int x2] (PW D (tC cI cL cS) 490 ad (cellC cI cL cS ad) w)) (QWi D 490 ad (cellC cI cL cS ad) out w) 0 0 (AW 490 ad) := by
  refine mk_met (maxL := 3) (ret := (some .boolean)) RX5 hI (by decide) rfl rfl (Nat.le_of_ble_eq_true rfl) rfl rfl (fun p e s m args below meth c X Y => ?_)
  unfold m_X5_hasQueue at hf
  refine j_aload_n X 0 dX5_hasQueue_0 rfl rfl ?_
  refine j_iload_n X 1 dX5_hasQueue_1 rfl rfl ?_
  obtain ⟨o1, ho1, hf⟩ := f_bd hf
  refine j_callVi X oS0 rfl rfl [.int x1] (c_X5_hasChild X.2.2.2.2.2.2.2 ho1) (cwV 1 X.2.2.2.2.1 gX5_hasQueue_X5_hasChild rfl rfl rfl (by decide +kernel) ⟨Nat.le_of_ble_eq_true rfl, Nat.le_of_ble_eq_true rfl⟩) rfl rfl (Nat.le_of_ble_eq_true rfl) dX5_hasQueue_2 ?_
  refine j_if_eq (tgt := 21) X dX5_hasQueue_5 (by decide) (fun c => ?_) (fun c => ?_)
  · replace hf := f_t c hf
    refine j_iconst X (v := (0 : Int32)) rfl dX5_hasQueue_21 ?_
    exact j_bret X Y (Eq.trans (by decide : (0 : Int32) &&& 1 = (0 : Int32)) (f_s hf)) rfl dX5_hasQueue_22
  replace hf := f_f c hf
  refine j_iload_n X 2 dX5_hasQueue_8 rfl rfl ?_
  refine j_if_eq (tgt := 17) X dX5_hasQueue_9 (by decide) (fun c => ?_) (fun c => ?_)
  · replace hf := f_t c hf
    refine j_sub [] rfl ?_
    exact t_X5_hasQueue_j17 X Y hf
  replace hf := f_f c hf
  refine j_iload_n X 2 dX5_hasQueue_12 rfl rfl ?_
  refine j_iconst X (v := (1 : Int32)) rfl dX5_hasQueue_13 ?_
  refine j_icmp_ne (tgt := 21) X dX5_hasQueue_14 (by decide) (fun c => ?_) (fun c => ?_)
  · replace hf := f_t c hf
    refine j_iconst X (v := (0 : Int32)) rfl dX5_hasQueue_21 ?_
    exact j_bret X Y (Eq.trans (by decide : (0 : Int32) &&& 1 = (0 : Int32)) (f_s hf)) rfl dX5_hasQueue_22
  replace hf := f_fn c hf
  refine j_sub [] rfl ?_
  exact t_X5_hasQueue_j17 X Y hf
abbrev rmX5_wasWritten : Room := { frames := 1, cells := 0, slots := 0, locals := 21 }
set_option maxRecDepth 100000 in
set_option maxHeartbeats 4000000 in
theorem c_X5_wasWritten (hI : Inj 490 ad) {x1 : Int32} {x2 : Int32} {w : Wd} {out : Int32} (hf : m_X5_wasWritten x1 x2 w = some out) : Met l yX5_wasWritten wsX5_wasWritten rmX5_wasWritten (va_Pc [.ref (ad 50), .int x1, .int x2] (PW D (tC cI cL cS) 490 ad (cellC cI cL cS ad) w)) (QWi D 490 ad (cellC cI cL cS ad) out w) 0 0 (AW 490 ad) := by
  refine mk_met (maxL := 3) (ret := (some .boolean)) RX5 hI (by decide) rfl rfl (Nat.le_of_ble_eq_true rfl) rfl rfl (fun p e s m args below meth c X Y => ?_)
  unfold m_X5_wasWritten at hf
  refine j_iload_n X 1 dX5_wasWritten_0 rfl rfl ?_
  obtain ⟨o1, ho1, hf⟩ := f_bd hf
  refine j_callSNi X [.int x1] (c_X7_isOrigin X.2.2.2.2.2.2.2 ho1) ⟨va_cnB 1 X.2.2.2.2.1 gX5_wasWritten_X7_isOrigin_n90 rfl rfl rfl (X.2.2.2.2.2.2.1.2 ("ProxyVersions$State", 90, ⟨"ProxyVersions", "isOrigin", "(I)Z"⟩, "ProxyVersions") (List.mem_of_getElem? (i := 5) rfl)) (X.2.2.2.2.1 _ (List.mem_of_getElem? (i := 2) rfl)) (by decide +kernel) ⟨Nat.le_of_ble_eq_true rfl, Nat.le_of_ble_eq_true rfl⟩, X.2.2.2.2.1 _ (List.mem_of_getElem? (i := 1) rfl), trivial⟩ rfl rfl (Nat.le_of_ble_eq_true rfl) dX5_wasWritten_1 ?_
  refine j_if_eq (tgt := 25) X dX5_wasWritten_4 (by decide) (fun c => ?_) (fun c => ?_)
  · replace hf := f_t c hf
    refine j_iconst X (v := (0 : Int32)) rfl dX5_wasWritten_25 ?_
    exact j_bret X Y (Eq.trans (by decide : (0 : Int32) &&& 1 = (0 : Int32)) (f_s hf)) rfl dX5_wasWritten_26
  replace hf := f_f c hf
  refine j_iload_n X 2 dX5_wasWritten_7 rfl rfl ?_
  refine j_iconst X (v := (1 : Int32)) rfl dX5_wasWritten_8 ?_
  refine j_icmp_lt (tgt := 25) X dX5_wasWritten_9 (by decide) (fun c => ?_) (fun c => ?_)
  · replace hf := f_t c hf
    refine j_iconst X (v := (0 : Int32)) rfl dX5_wasWritten_25 ?_
    exact j_bret X Y (Eq.trans (by decide : (0 : Int32) &&& 1 = (0 : Int32)) (f_s hf)) rfl dX5_wasWritten_26
  replace hf := f_f c hf
  refine j_iload_n X 2 dX5_wasWritten_12 rfl rfl ?_
  refine j_aload_n X 0 dX5_wasWritten_13 rfl rfl ?_
  refine j_iload_n X 1 dX5_wasWritten_14 rfl rfl ?_
  obtain ⟨o2, ho2, hf⟩ := f_bd hf
  refine j_callVi X oS0 rfl rfl [.int x1] (c_X5_writtenOf X.2.2.2.2.2.2.2 ho2) (cwV 1 X.2.2.2.2.1 gX5_wasWritten_X5_writtenOf rfl rfl rfl (by decide +kernel) ⟨Nat.le_of_ble_eq_true rfl, Nat.le_of_ble_eq_true rfl⟩) rfl rfl (Nat.le_of_ble_eq_true rfl) dX5_wasWritten_15 ?_
  refine j_icmp_gt (tgt := 25) X dX5_wasWritten_18 (by decide) (fun c => ?_) (fun c => ?_)
  · replace hf := f_t c hf
    refine j_iconst X (v := (0 : Int32)) rfl dX5_wasWritten_25 ?_
    exact j_bret X Y (Eq.trans (by decide : (0 : Int32) &&& 1 = (0 : Int32)) (f_s hf)) rfl dX5_wasWritten_26
  replace hf := f_f c hf
  refine j_iconst X (v := (1 : Int32)) rfl dX5_wasWritten_21 ?_
  refine j_goto (tgt := 26) X dX5_wasWritten_22 (by decide) ?_
  exact j_bret X Y (Eq.trans (by decide : (1 : Int32) &&& 1 = (1 : Int32)) (f_s hf)) rfl dX5_wasWritten_26
abbrev rmX5_keeps : Room := { frames := 2, cells := 0, slots := 0, locals := 42 }
set_option maxRecDepth 100000 in
set_option maxHeartbeats 4000000 in
theorem c_X5_keeps (hI : Inj 490 ad) {x1 : Int32} {x2 : Int32} {w : Wd} {out : Int32} (hf : m_X5_keeps x1 x2 w = some out) : Met l yX5_keeps wsX5_keeps rmX5_keeps (va_Pc [.ref (ad 50), .int x1, .int x2] (PW D (tC cI cL cS) 490 ad (cellC cI cL cS ad) w)) (QWi D 490 ad (cellC cI cL cS ad) out w) 0 0 (AW 490 ad) := by
  refine mk_met (maxL := 3) (ret := (some .boolean)) RX5 hI (by decide) rfl rfl (Nat.le_of_ble_eq_true rfl) rfl rfl (fun p e s m args below meth c X Y => ?_)
  unfold m_X5_keeps at hf
  refine j_aload_n X 0 dX5_keeps_0 rfl rfl ?_
  refine j_iload_n X 1 dX5_keeps_1 rfl rfl ?_
  obtain ⟨o1, ho1, hf⟩ := f_bd hf
  refine j_callVr X oS0 rfl rfl [.int x1] (c_X5_contentsOf X.2.2.2.2.2.2.2 ho1) (cwV 1 X.2.2.2.2.1 gX5_keeps_X5_contentsOf rfl rfl rfl (by decide +kernel) ⟨Nat.le_of_ble_eq_true rfl, Nat.le_of_ble_eq_true rfl⟩) rfl rfl (Nat.le_of_ble_eq_true rfl) dX5_keeps_2 ?_
  have hlo1 := ln_X5_contentsOf ho1
  refine j_iload_n X 2 dX5_keeps_5 rfl rfl ?_
  obtain ⟨o2, ho2, hf⟩ := f_bd hf
  refine j_callVi X (oLn hlo1) rfl rfl [.int x2] (c_X2_has X.2.2.2.2.2.2.2 hlo1 ho2) (cwV 1 X.2.2.2.2.1 gX5_keeps_X2_has rfl rfl rfl (by decide +kernel) ⟨Nat.le_of_ble_eq_true rfl, Nat.le_of_ble_eq_true rfl⟩) rfl rfl (Nat.le_of_ble_eq_true rfl) dX5_keeps_6 ?_
  exact j_bret X Y (f_s hf) rfl dX5_keeps_9
abbrev rmX5_isAbove : Room := { frames := 1, cells := 0, slots := 0, locals := 21 }
set_option maxRecDepth 100000 in
set_option maxHeartbeats 4000000 in
theorem t_X5_isAbove_L5 (X : CX p rmX5_isAbove s m args c cX5_isAbove 5 RX5 wsX5_isAbove D (tC cI cL cS) 490 ad) (Y : RX meth (some .boolean)) {x1 : Int32} {w : Wd} {out : Int32} : ∀ (n : Nat) (x3 : Int32) (x4 : Int32), m_X5_isAbove_L5 x1 w n x3 x4 = some out → WJ p l e rmX5_isAbove s m args below meth c (MQ below (QWi D 490 ad (cellC cI cL cS ad) out w) args s 0 0 (AW 490 ad)) 5 D 490 ad (cellC cI cL cS ad) w 5 [(0, .ref (ad 50)), (1, .int x1), (3, .int x3), (4, .int x4)] [] := by
  intro n
  induction n with
  | zero => intro x3 x4 hf; exact f_n hf
  | succ n ih =>
    intro x3 x4 hf
    rw [m_X5_isAbove_L5] at hf
    refine j_iload_n X 2 dX5_isAbove_5 rfl rfl ?_
    refine j_if_eq (tgt := 35) X dX5_isAbove_6 (by decide) (fun c => ?_) (fun c => ?_)
    · replace hf := f_t c hf
      refine j_iconst X (v := (0 : Int32)) rfl dX5_isAbove_35 ?_
      exact j_bret X Y (Eq.trans (by decide : (0 : Int32) &&& 1 = (0 : Int32)) (f_s hf)) rfl dX5_isAbove_36
    replace hf := f_f c hf
    refine j_iload X 3 dX5_isAbove_9 rfl ?_
    refine j_bipush X (v := (8 : Int32)) (by decide) dX5_isAbove_11 ?_
    refine j_icmp_ge (tgt := 35) X dX5_isAbove_13 (by decide) (fun c => ?_) (fun c => ?_)
    · replace hf := f_t c hf
      refine j_iconst X (v := (0 : Int32)) rfl dX5_isAbove_35 ?_
      exact j_bret X Y (Eq.trans (by decide : (0 : Int32) &&& 1 = (0 : Int32)) (f_s hf)) rfl dX5_isAbove_36
    replace hf := f_f c hf
    refine j_aload_n X 0 dX5_isAbove_16 rfl rfl ?_
    refine j_iload_n X 2 dX5_isAbove_17 rfl rfl ?_
    obtain ⟨o1, ho1, hf⟩ := f_bd hf
    refine j_callVi X oS0 rfl rfl [.int x3] (c_X5_parentOf X.2.2.2.2.2.2.2 ho1) (cwV 1 X.2.2.2.2.1 gX5_isAbove_X5_parentOf rfl rfl rfl (by decide +kernel) ⟨Nat.le_of_ble_eq_true rfl, Nat.le_of_ble_eq_true rfl⟩) rfl rfl (Nat.le_of_ble_eq_true rfl) dX5_isAbove_18 ?_
    refine j_istore_n (lv' := [(0, .ref (ad 50)), (1, .int x1), (3, .int o1), (4, .int x4)]) X dX5_isAbove_21 rfl (by decide) rfl ?_
    refine j_iload_n X 2 dX5_isAbove_22 rfl rfl ?_
    refine j_iload_n X 1 dX5_isAbove_23 rfl rfl ?_
    refine j_icmp_ne (tgt := 29) X dX5_isAbove_24 (by decide) (fun c => ?_) (fun c => ?_)
    · replace hf := f_t c hf
      refine j_iinc (v := (x4 + (1 : Int32))) (lv' := [(0, .ref (ad 50)), (1, .int x1), (3, .int o1), (4, .int (x4 + (1 : Int32)))]) X 3 dX5_isAbove_29 rfl rfl (by decide) rfl ?_
      refine j_goto (tgt := 5) X dX5_isAbove_32 (by decide) ?_
      exact ih _ _ hf
    replace hf := f_fn c hf
    refine j_iconst X (v := (1 : Int32)) rfl dX5_isAbove_27 ?_
    exact j_bret X Y (Eq.trans (by decide : (1 : Int32) &&& 1 = (1 : Int32)) (f_s hf)) rfl dX5_isAbove_28
set_option maxRecDepth 100000 in
set_option maxHeartbeats 4000000 in
theorem c_X5_isAbove (hI : Inj 490 ad) {x1 : Int32} {x2 : Int32} {w : Wd} {out : Int32} (hf : m_X5_isAbove x1 x2 w = some out) : Met l yX5_isAbove wsX5_isAbove rmX5_isAbove (va_Pc [.ref (ad 50), .int x1, .int x2] (PW D (tC cI cL cS) 490 ad (cellC cI cL cS ad) w)) (QWi D 490 ad (cellC cI cL cS ad) out w) 0 0 (AW 490 ad) := by
  refine mk_met (maxL := 5) (ret := (some .boolean)) RX5 hI (by decide) rfl rfl (Nat.le_of_ble_eq_true rfl) rfl rfl (fun p e s m args below meth c X Y => ?_)
  unfold m_X5_isAbove at hf
  refine j_iload_n X 2 dX5_isAbove_0 rfl rfl ?_
  refine j_istore_n (lv' := [(0, .ref (ad 50)), (1, .int x1), (2, .int x2), (3, .int x2)]) X dX5_isAbove_1 rfl (by decide) rfl ?_
  refine j_iconst X (v := (0 : Int32)) rfl dX5_isAbove_2 ?_
  refine j_istore (lv' := [(0, .ref (ad 50)), (1, .int x1), (2, .int x2), (3, .int x2), (4, .int (0 : Int32))]) X dX5_isAbove_3 (by decide) rfl ?_
  refine j_sub [0, 1, 3, 4] rfl ?_
  refine t_X5_isAbove_L5 X Y _ _ _ hf
abbrev rmX5_childrenOf : Room := { frames := 2, cells := 0, slots := 0, locals := 43 }
theorem inX5_childrenOf_X5 : ∀ w ∈ wsX50, w ∈ wsX5_childrenOf := fun _ h => List.mem_cons_of_mem _ (List.mem_append_right _ h)
set_option maxRecDepth 100000 in
set_option maxHeartbeats 4000000 in
theorem t_X5_childrenOf_j24 (X : CX p rmX5_childrenOf s m args c cX5_childrenOf 4 RX5 wsX5_childrenOf D (tC cI cL cS) 490 ad) (Y : RX meth (some .int)) {x1 : Int32} {x2 : Int32} {x3 : Int32} {w : Wd} {kc : Int32 → Int32 → Option (Int32)} {out : Int32} (hf : m_X5_childrenOf_j24 x1 x2 x3 w kc = some out) (hk_kc : ∀ (y2 : Int32) (y3 : Int32), kc y2 y3 = some out → WJ p l e rmX5_childrenOf s m args below meth c (MQ below (QWi D 490 ad (cellC cI cL cS ad) out w) args s 0 0 (AW 490 ad)) 4 D 490 ad (cellC cI cL cS ad) w 4 [(0, .ref (ad 50)), (1, .int x1), (2, .int y2), (3, .int y3)] []) : WJ p l e rmX5_childrenOf s m args below meth c (MQ below (QWi D 490 ad (cellC cI cL cS ad) out w) args s 0 0 (AW 490 ad)) 4 D 490 ad (cellC cI cL cS ad) w 24 [(0, .ref (ad 50)), (1, .int x1), (2, .int x2), (3, .int x3)] [] := by
  unfold m_X5_childrenOf_j24 at hf
  refine j_iinc (v := (x3 + (1 : Int32))) (lv' := [(0, .ref (ad 50)), (1, .int x1), (2, .int x2), (3, .int (x3 + (1 : Int32)))]) X 3 dX5_childrenOf_24 rfl rfl (by decide) rfl ?_
  refine j_goto (tgt := 4) X dX5_childrenOf_27 (by decide) ?_
  exact hk_kc _ _ hf
set_option maxRecDepth 100000 in
set_option maxHeartbeats 4000000 in
theorem t_X5_childrenOf_L4 (X : CX p rmX5_childrenOf s m args c cX5_childrenOf 4 RX5 wsX5_childrenOf D (tC cI cL cS) 490 ad) (Y : RX meth (some .int)) {x1 : Int32} {w : Wd} {out : Int32} : ∀ (n : Nat) (x2 : Int32) (x3 : Int32), m_X5_childrenOf_L4 x1 w n x2 x3 = some out → WJ p l e rmX5_childrenOf s m args below meth c (MQ below (QWi D 490 ad (cellC cI cL cS ad) out w) args s 0 0 (AW 490 ad)) 4 D 490 ad (cellC cI cL cS ad) w 4 [(0, .ref (ad 50)), (1, .int x1), (2, .int x2), (3, .int x3)] [] := by
  intro n
  induction n with
  | zero => intro x2 x3 hf; exact f_n hf
  | succ n ih =>
    intro x2 x3 hf
    rw [m_X5_childrenOf_L4] at hf
    refine j_iload_n X 3 dX5_childrenOf_4 rfl rfl ?_
    refine j_aload_n X 0 dX5_childrenOf_5 rfl rfl ?_
    refine j_get (ref := "ProxyVersions$State") (index := 9) (v := .int (w 50 0)) X oS0 inX5_childrenOf_X5 rfl 0 (by decide) (List.mem_of_getElem? (i := 1) rfl) rfl rfl dX5_childrenOf_6 ?_
    refine j_icmp_ge (tgt := 30) X dX5_childrenOf_9 (by decide) (fun c => ?_) (fun c => ?_)
    · replace hf := f_t c hf
      refine j_iload_n X 2 dX5_childrenOf_30 rfl rfl ?_
      exact j_iret X Y (f_s hf) rfl dX5_childrenOf_31
    replace hf := f_f c hf
    refine j_aload_n X 0 dX5_childrenOf_12 rfl rfl ?_
    refine j_iload_n X 3 dX5_childrenOf_13 rfl rfl ?_
    refine j_iload_n X 1 dX5_childrenOf_14 rfl rfl ?_
    obtain ⟨o1, ho1, hf⟩ := f_bd hf
    refine j_callVi X oS0 rfl rfl [.int x3, .int x1] (c_X5_isChildOf X.2.2.2.2.2.2.2 ho1) (cwV 2 X.2.2.2.2.1 gX5_childrenOf_X5_isChildOf rfl rfl rfl (by decide +kernel) ⟨Nat.le_of_ble_eq_true rfl, Nat.le_of_ble_eq_true rfl⟩) rfl rfl (Nat.le_of_ble_eq_true rfl) dX5_childrenOf_15 ?_
    refine j_if_eq (tgt := 24) X dX5_childrenOf_18 (by decide) (fun c => ?_) (fun c => ?_)
    · replace hf := f_t c hf
      exact t_X5_childrenOf_j24 X Y hf ih
    replace hf := f_f c hf
    refine j_iinc (v := (x2 + (1 : Int32))) (lv' := [(0, .ref (ad 50)), (1, .int x1), (2, .int (x2 + (1 : Int32))), (3, .int x3)]) X 2 dX5_childrenOf_21 rfl rfl (by decide) rfl ?_
    exact t_X5_childrenOf_j24 X Y hf ih
set_option maxRecDepth 100000 in
set_option maxHeartbeats 4000000 in
theorem c_X5_childrenOf (hI : Inj 490 ad) {x1 : Int32} {w : Wd} {out : Int32} (hf : m_X5_childrenOf x1 w = some out) : Met l yX5_childrenOf wsX5_childrenOf rmX5_childrenOf (va_Pc [.ref (ad 50), .int x1] (PW D (tC cI cL cS) 490 ad (cellC cI cL cS ad) w)) (QWi D 490 ad (cellC cI cL cS ad) out w) 0 0 (AW 490 ad) := by
  refine mk_met (maxL := 4) (ret := (some .int)) RX5 hI (by decide) rfl rfl (Nat.le_of_ble_eq_true rfl) rfl rfl (fun p e s m args below meth c X Y => ?_)
  unfold m_X5_childrenOf at hf
  refine j_iconst X (v := (0 : Int32)) rfl dX5_childrenOf_0 ?_
  refine j_istore_n (lv' := [(0, .ref (ad 50)), (1, .int x1), (2, .int (0 : Int32))]) X dX5_childrenOf_1 rfl (by decide) rfl ?_
  refine j_iconst X (v := (1 : Int32)) rfl dX5_childrenOf_2 ?_
  refine j_istore_n (lv' := [(0, .ref (ad 50)), (1, .int x1), (2, .int (0 : Int32)), (3, .int (1 : Int32))]) X dX5_childrenOf_3 rfl (by decide) rfl ?_
  refine t_X5_childrenOf_L4 X Y _ _ _ hf
abbrev rmX5_stepsToRoot : Room := { frames := 1, cells := 0, slots := 0, locals := 21 }
set_option maxRecDepth 100000 in
set_option maxHeartbeats 4000000 in
theorem t_X5_stepsToRoot_L4 (X : CX p rmX5_stepsToRoot s m args c cX5_stepsToRoot 4 RX5 wsX5_stepsToRoot D (tC cI cL cS) 490 ad) (Y : RX meth (some .int)) {w : Wd} {out : Int32} : ∀ (n : Nat) (x2 : Int32) (x3 : Int32), m_X5_stepsToRoot_L4 w n x2 x3 = some out → WJ p l e rmX5_stepsToRoot s m args below meth c (MQ below (QWi D 490 ad (cellC cI cL cS ad) out w) args s 0 0 (AW 490 ad)) 4 D 490 ad (cellC cI cL cS ad) w 4 [(0, .ref (ad 50)), (2, .int x2), (3, .int x3)] [] := by
  intro n
  induction n with
  | zero => intro x2 x3 hf; exact f_n hf
  | succ n ih =>
    intro x2 x3 hf
    rw [m_X5_stepsToRoot_L4] at hf
    refine j_iload_n X 2 dX5_stepsToRoot_4 rfl rfl ?_
    refine j_if_eq (tgt := 26) X dX5_stepsToRoot_5 (by decide) (fun c => ?_) (fun c => ?_)
    · replace hf := f_t c hf
      refine j_iload_n X 1 dX5_stepsToRoot_26 rfl rfl ?_
      exact j_iret X Y (f_s hf) rfl dX5_stepsToRoot_27
    replace hf := f_f c hf
    refine j_iload_n X 1 dX5_stepsToRoot_8 rfl rfl ?_
    refine j_bipush X (v := (8 : Int32)) (by decide) dX5_stepsToRoot_9 ?_
    refine j_icmp_ge (tgt := 26) X dX5_stepsToRoot_11 (by decide) (fun c => ?_) (fun c => ?_)
    · replace hf := f_t c hf
      refine j_iload_n X 1 dX5_stepsToRoot_26 rfl rfl ?_
      exact j_iret X Y (f_s hf) rfl dX5_stepsToRoot_27
    replace hf := f_f c hf
    refine j_iinc (v := (x2 + (1 : Int32))) (lv' := [(0, .ref (ad 50)), (2, .int (x2 + (1 : Int32))), (3, .int x3)]) X 1 dX5_stepsToRoot_14 rfl rfl (by decide) rfl ?_
    refine j_aload_n X 0 dX5_stepsToRoot_17 rfl rfl ?_
    refine j_iload_n X 2 dX5_stepsToRoot_18 rfl rfl ?_
    obtain ⟨o1, ho1, hf⟩ := f_bd hf
    refine j_callVi X oS0 rfl rfl [.int x3] (c_X5_parentOf X.2.2.2.2.2.2.2 ho1) (cwV 1 X.2.2.2.2.1 gX5_stepsToRoot_X5_parentOf rfl rfl rfl (by decide +kernel) ⟨Nat.le_of_ble_eq_true rfl, Nat.le_of_ble_eq_true rfl⟩) rfl rfl (Nat.le_of_ble_eq_true rfl) dX5_stepsToRoot_19 ?_
    refine j_istore_n (lv' := [(0, .ref (ad 50)), (2, .int (x2 + (1 : Int32))), (3, .int o1)]) X dX5_stepsToRoot_22 rfl (by decide) rfl ?_
    refine j_goto (tgt := 4) X dX5_stepsToRoot_23 (by decide) ?_
    exact ih _ _ hf
set_option maxRecDepth 100000 in
set_option maxHeartbeats 4000000 in
theorem c_X5_stepsToRoot (hI : Inj 490 ad) {x1 : Int32} {w : Wd} {out : Int32} (hf : m_X5_stepsToRoot x1 w = some out) : Met l yX5_stepsToRoot wsX5_stepsToRoot rmX5_stepsToRoot (va_Pc [.ref (ad 50), .int x1] (PW D (tC cI cL cS) 490 ad (cellC cI cL cS ad) w)) (QWi D 490 ad (cellC cI cL cS ad) out w) 0 0 (AW 490 ad) := by
  refine mk_met (maxL := 4) (ret := (some .int)) RX5 hI (by decide) rfl rfl (Nat.le_of_ble_eq_true rfl) rfl rfl (fun p e s m args below meth c X Y => ?_)
  unfold m_X5_stepsToRoot at hf
  refine j_iconst X (v := (0 : Int32)) rfl dX5_stepsToRoot_0 ?_
  refine j_istore_n (lv' := [(0, .ref (ad 50)), (1, .int x1), (2, .int (0 : Int32))]) X dX5_stepsToRoot_1 rfl (by decide) rfl ?_
  refine j_iload_n X 1 dX5_stepsToRoot_2 rfl rfl ?_
  refine j_istore_n (lv' := [(0, .ref (ad 50)), (1, .int x1), (2, .int (0 : Int32)), (3, .int x1)]) X dX5_stepsToRoot_3 rfl (by decide) rfl ?_
  refine j_sub [0, 2, 3] rfl ?_
  refine t_X5_stepsToRoot_L4 X Y _ _ _ hf
abbrev rmX5_writtenCount : Room := { frames := 1, cells := 0, slots := 0, locals := 21 }
set_option maxRecDepth 100000 in
set_option maxHeartbeats 4000000 in
theorem t_X5_writtenCount_L4 (X : CX p rmX5_writtenCount s m args c cX5_writtenCount 3 RX5 wsX5_writtenCount D (tC cI cL cS) 490 ad) (Y : RX meth (some .int)) {w : Wd} {out : Int32} : ∀ (n : Nat) (x1 : Int32) (x2 : Int32), m_X5_writtenCount_L4 w n x1 x2 = some out → WJ p l e rmX5_writtenCount s m args below meth c (MQ below (QWi D 490 ad (cellC cI cL cS ad) out w) args s 0 0 (AW 490 ad)) 3 D 490 ad (cellC cI cL cS ad) w 4 [(0, .ref (ad 50)), (1, .int x1), (2, .int x2)] [] := by
  intro n
  induction n with
  | zero => intro x1 x2 hf; exact f_n hf
  | succ n ih =>
    intro x1 x2 hf
    rw [m_X5_writtenCount_L4] at hf
    refine j_iload_n X 2 dX5_writtenCount_4 rfl rfl ?_
    refine j_iconst X (v := (4 : Int32)) rfl dX5_writtenCount_5 ?_
    refine j_icmp_ge (tgt := 23) X dX5_writtenCount_6 (by decide) (fun c => ?_) (fun c => ?_)
    · replace hf := f_t c hf
      refine j_iload_n X 1 dX5_writtenCount_23 rfl rfl ?_
      exact j_iret X Y (f_s hf) rfl dX5_writtenCount_24
    replace hf := f_f c hf
    refine j_iload_n X 1 dX5_writtenCount_9 rfl rfl ?_
    refine j_aload_n X 0 dX5_writtenCount_10 rfl rfl ?_
    refine j_iload_n X 2 dX5_writtenCount_11 rfl rfl ?_
    obtain ⟨o1, ho1, hf⟩ := f_bd hf
    refine j_callVi X oS0 rfl rfl [.int x2] (c_X5_writtenOf X.2.2.2.2.2.2.2 ho1) (cwV 1 X.2.2.2.2.1 gX5_writtenCount_X5_writtenOf rfl rfl rfl (by decide +kernel) ⟨Nat.le_of_ble_eq_true rfl, Nat.le_of_ble_eq_true rfl⟩) rfl rfl (Nat.le_of_ble_eq_true rfl) dX5_writtenCount_12 ?_
    refine j_iadd X dX5_writtenCount_15 ?_
    obtain ⟨x1_2, ex1_2, hf⟩ := f_lt hf
    refine j_top ex1_2 ?_
    refine j_istore_n (lv' := [(0, .ref (ad 50)), (1, .int x1_2), (2, .int x2)]) X dX5_writtenCount_16 rfl (by decide) rfl ?_
    refine j_iinc (v := (x2 + (1 : Int32))) (lv' := [(0, .ref (ad 50)), (1, .int x1_2), (2, .int (x2 + (1 : Int32)))]) X 2 dX5_writtenCount_17 rfl rfl (by decide) rfl ?_
    refine j_goto (tgt := 4) X dX5_writtenCount_20 (by decide) ?_
    exact ih _ _ hf
set_option maxRecDepth 100000 in
set_option maxHeartbeats 4000000 in
theorem c_X5_writtenCount (hI : Inj 490 ad) {w : Wd} {out : Int32} (hf : m_X5_writtenCount w = some out) : Met l yX5_writtenCount wsX5_writtenCount rmX5_writtenCount (va_Pc [.ref (ad 50)] (PW D (tC cI cL cS) 490 ad (cellC cI cL cS ad) w)) (QWi D 490 ad (cellC cI cL cS ad) out w) 0 0 (AW 490 ad) := by
  refine mk_met (maxL := 3) (ret := (some .int)) RX5 hI (by decide) rfl rfl (Nat.le_of_ble_eq_true rfl) rfl rfl (fun p e s m args below meth c X Y => ?_)
  unfold m_X5_writtenCount at hf
  refine j_iconst X (v := (0 : Int32)) rfl dX5_writtenCount_0 ?_
  refine j_istore_n (lv' := [(0, .ref (ad 50)), (1, .int (0 : Int32))]) X dX5_writtenCount_1 rfl (by decide) rfl ?_
  refine j_iconst X (v := (0 : Int32)) rfl dX5_writtenCount_2 ?_
  refine j_istore_n (lv' := [(0, .ref (ad 50)), (1, .int (0 : Int32)), (2, .int (0 : Int32))]) X dX5_writtenCount_3 rfl (by decide) rfl ?_
  refine t_X5_writtenCount_L4 X Y _ _ _ hf
abbrev rmX5_knownCount : Room := { frames := 2, cells := 0, slots := 0, locals := 40 }
set_option maxRecDepth 100000 in
set_option maxHeartbeats 4000000 in
theorem t_X5_knownCount_L4 (X : CX p rmX5_knownCount s m args c cX5_knownCount 4 RX5 wsX5_knownCount D (tC cI cL cS) 490 ad) (Y : RX meth (some .int)) {x1 : Int32} {w : Wd} {out : Int32} : ∀ (n : Nat) (x2 : Int32) (x3 : Int32), m_X5_knownCount_L4 x1 w n x2 x3 = some out → WJ p l e rmX5_knownCount s m args below meth c (MQ below (QWi D 490 ad (cellC cI cL cS ad) out w) args s 0 0 (AW 490 ad)) 4 D 490 ad (cellC cI cL cS ad) w 4 [(0, .ref (ad 50)), (1, .int x1), (2, .int x2), (3, .int x3)] [] := by
  intro n
  induction n with
  | zero => intro x2 x3 hf; exact f_n hf
  | succ n ih =>
    intro x2 x3 hf
    rw [m_X5_knownCount_L4] at hf
    refine j_iload_n X 3 dX5_knownCount_4 rfl rfl ?_
    refine j_iconst X (v := (4 : Int32)) rfl dX5_knownCount_5 ?_
    refine j_icmp_ge (tgt := 27) X dX5_knownCount_6 (by decide) (fun c => ?_) (fun c => ?_)
    · replace hf := f_t c hf
      refine j_iload_n X 2 dX5_knownCount_27 rfl rfl ?_
      exact j_iret X Y (f_s hf) rfl dX5_knownCount_28
    replace hf := f_f c hf
    refine j_iload_n X 2 dX5_knownCount_9 rfl rfl ?_
    refine j_aload_n X 0 dX5_knownCount_10 rfl rfl ?_
    refine j_iload_n X 1 dX5_knownCount_11 rfl rfl ?_
    refine j_iload_n X 3 dX5_knownCount_12 rfl rfl ?_
    obtain ⟨o1, ho1, hf⟩ := f_bd hf
    refine j_callVi X oS0 rfl rfl [.int x1, .int x3] (c_X5_knownOf X.2.2.2.2.2.2.2 ho1) (cwV 2 X.2.2.2.2.1 gX5_knownCount_X5_knownOf rfl rfl rfl (by decide +kernel) ⟨Nat.le_of_ble_eq_true rfl, Nat.le_of_ble_eq_true rfl⟩) rfl rfl (Nat.le_of_ble_eq_true rfl) dX5_knownCount_13 ?_
    obtain ⟨o2, ho2, hf⟩ := f_bd hf
    refine j_callSi X [.int o1] (c_X6_sizeOf X.2.2.2.2.2.2.2 ho2) (va_cwS 1 X.2.2.2.2.1 gX5_knownCount_X6_sizeOf rfl rfl rfl (by decide +kernel) ⟨Nat.le_of_ble_eq_true rfl, Nat.le_of_ble_eq_true rfl⟩) rfl rfl (Nat.le_of_ble_eq_true rfl) dX5_knownCount_16 ?_
    refine j_iadd X dX5_knownCount_19 ?_
    obtain ⟨x2_3, ex2_3, hf⟩ := f_lt hf
    refine j_top ex2_3 ?_
    refine j_istore_n (lv' := [(0, .ref (ad 50)), (1, .int x1), (2, .int x2_3), (3, .int x3)]) X dX5_knownCount_20 rfl (by decide) rfl ?_
    refine j_iinc (v := (x3 + (1 : Int32))) (lv' := [(0, .ref (ad 50)), (1, .int x1), (2, .int x2_3), (3, .int (x3 + (1 : Int32)))]) X 3 dX5_knownCount_21 rfl rfl (by decide) rfl ?_
    refine j_goto (tgt := 4) X dX5_knownCount_24 (by decide) ?_
    exact ih _ _ hf
set_option maxRecDepth 100000 in
set_option maxHeartbeats 4000000 in
theorem c_X5_knownCount (hI : Inj 490 ad) {x1 : Int32} {w : Wd} {out : Int32} (hf : m_X5_knownCount x1 w = some out) : Met l yX5_knownCount wsX5_knownCount rmX5_knownCount (va_Pc [.ref (ad 50), .int x1] (PW D (tC cI cL cS) 490 ad (cellC cI cL cS ad) w)) (QWi D 490 ad (cellC cI cL cS ad) out w) 0 0 (AW 490 ad) := by
  refine mk_met (maxL := 4) (ret := (some .int)) RX5 hI (by decide) rfl rfl (Nat.le_of_ble_eq_true rfl) rfl rfl (fun p e s m args below meth c X Y => ?_)
  unfold m_X5_knownCount at hf
  refine j_iconst X (v := (0 : Int32)) rfl dX5_knownCount_0 ?_
  refine j_istore_n (lv' := [(0, .ref (ad 50)), (1, .int x1), (2, .int (0 : Int32))]) X dX5_knownCount_1 rfl (by decide) rfl ?_
  refine j_iconst X (v := (0 : Int32)) rfl dX5_knownCount_2 ?_
  refine j_istore_n (lv' := [(0, .ref (ad 50)), (1, .int x1), (2, .int (0 : Int32)), (3, .int (0 : Int32))]) X dX5_knownCount_3 rfl (by decide) rfl ?_
  refine t_X5_knownCount_L4 X Y _ _ _ hf
abbrev rmX5_exceptionCount : Room := { frames := 3, cells := 0, slots := 0, locals := 60 }
set_option maxRecDepth 100000 in
set_option maxHeartbeats 4000000 in
theorem t_X5_exceptionCount_L4 (X : CX p rmX5_exceptionCount s m args c cX5_exceptionCount 4 RX5 wsX5_exceptionCount D (tC cI cL cS) 490 ad) (Y : RX meth (some .int)) {x1 : Int32} {w : Wd} {out : Int32} : ∀ (n : Nat) (x2 : Int32) (x3 : Int32), m_X5_exceptionCount_L4 x1 w n x2 x3 = some out → WJ p l e rmX5_exceptionCount s m args below meth c (MQ below (QWi D 490 ad (cellC cI cL cS ad) out w) args s 0 0 (AW 490 ad)) 4 D 490 ad (cellC cI cL cS ad) w 4 [(0, .ref (ad 50)), (1, .int x1), (2, .int x2), (3, .int x3)] [] := by
  intro n
  induction n with
  | zero => intro x2 x3 hf; exact f_n hf
  | succ n ih =>
    intro x2 x3 hf
    rw [m_X5_exceptionCount_L4] at hf
    refine j_iload_n X 3 dX5_exceptionCount_4 rfl rfl ?_
    refine j_iconst X (v := (4 : Int32)) rfl dX5_exceptionCount_5 ?_
    refine j_icmp_ge (tgt := 27) X dX5_exceptionCount_6 (by decide) (fun c => ?_) (fun c => ?_)
    · replace hf := f_t c hf
      refine j_iload_n X 2 dX5_exceptionCount_27 rfl rfl ?_
      exact j_iret X Y (f_s hf) rfl dX5_exceptionCount_28
    replace hf := f_f c hf
    refine j_iload_n X 2 dX5_exceptionCount_9 rfl rfl ?_
    refine j_aload_n X 0 dX5_exceptionCount_10 rfl rfl ?_
    refine j_iload_n X 1 dX5_exceptionCount_11 rfl rfl ?_
    refine j_iload_n X 3 dX5_exceptionCount_12 rfl rfl ?_
    obtain ⟨o1, ho1, hf⟩ := f_bd hf
    refine j_callVi X oS0 rfl rfl [.int x1, .int x3] (c_X5_knownOf X.2.2.2.2.2.2.2 ho1) (cwV 2 X.2.2.2.2.1 gX5_exceptionCount_X5_knownOf rfl rfl rfl (by decide +kernel) ⟨Nat.le_of_ble_eq_true rfl, Nat.le_of_ble_eq_true rfl⟩) rfl rfl (Nat.le_of_ble_eq_true rfl) dX5_exceptionCount_13 ?_
    obtain ⟨o2, ho2, hf⟩ := f_bd hf
    refine j_callSi X [.int o1] (c_X6_exceptionsIn X.2.2.2.2.2.2.2 ho2) (va_cwS 1 X.2.2.2.2.1 gX5_exceptionCount_X6_exceptionsIn rfl rfl rfl (by decide +kernel) ⟨Nat.le_of_ble_eq_true rfl, Nat.le_of_ble_eq_true rfl⟩) rfl rfl (Nat.le_of_ble_eq_true rfl) dX5_exceptionCount_16 ?_
    refine j_iadd X dX5_exceptionCount_19 ?_
    obtain ⟨x2_3, ex2_3, hf⟩ := f_lt hf
    refine j_top ex2_3 ?_
    refine j_istore_n (lv' := [(0, .ref (ad 50)), (1, .int x1), (2, .int x2_3), (3, .int x3)]) X dX5_exceptionCount_20 rfl (by decide) rfl ?_
    refine j_iinc (v := (x3 + (1 : Int32))) (lv' := [(0, .ref (ad 50)), (1, .int x1), (2, .int x2_3), (3, .int (x3 + (1 : Int32)))]) X 3 dX5_exceptionCount_21 rfl rfl (by decide) rfl ?_
    refine j_goto (tgt := 4) X dX5_exceptionCount_24 (by decide) ?_
    exact ih _ _ hf
set_option maxRecDepth 100000 in
set_option maxHeartbeats 4000000 in
theorem c_X5_exceptionCount (hI : Inj 490 ad) {x1 : Int32} {w : Wd} {out : Int32} (hf : m_X5_exceptionCount x1 w = some out) : Met l yX5_exceptionCount wsX5_exceptionCount rmX5_exceptionCount (va_Pc [.ref (ad 50), .int x1] (PW D (tC cI cL cS) 490 ad (cellC cI cL cS ad) w)) (QWi D 490 ad (cellC cI cL cS ad) out w) 0 0 (AW 490 ad) := by
  refine mk_met (maxL := 4) (ret := (some .int)) RX5 hI (by decide) rfl rfl (Nat.le_of_ble_eq_true rfl) rfl rfl (fun p e s m args below meth c X Y => ?_)
  unfold m_X5_exceptionCount at hf
  refine j_iconst X (v := (0 : Int32)) rfl dX5_exceptionCount_0 ?_
  refine j_istore_n (lv' := [(0, .ref (ad 50)), (1, .int x1), (2, .int (0 : Int32))]) X dX5_exceptionCount_1 rfl (by decide) rfl ?_
  refine j_iconst X (v := (0 : Int32)) rfl dX5_exceptionCount_2 ?_
  refine j_istore_n (lv' := [(0, .ref (ad 50)), (1, .int x1), (2, .int (0 : Int32)), (3, .int (0 : Int32))]) X dX5_exceptionCount_3 rfl (by decide) rfl ?_
  refine t_X5_exceptionCount_L4 X Y _ _ _ hf
abbrev rmX5_vectorSize : Room := { frames := 2, cells := 0, slots := 0, locals := 40 }
set_option maxRecDepth 100000 in
set_option maxHeartbeats 4000000 in
theorem t_X5_vectorSize_j33 (X : CX p rmX5_vectorSize s m args c cX5_vectorSize 5 RX5 wsX5_vectorSize D (tC cI cL cS) 490 ad) (Y : RX meth (some .int)) {x1 : Int32} {x3 : Int32} {s0 : Int32} {s1 : Int32} {s2 : Int32} {w : Wd} {kc : Int32 → Int32 → Option (Int32)} {out : Int32} (hf : m_X5_vectorSize_j33 x1 x3 s0 s1 s2 w kc = some out) (hk_kc : ∀ (y2 : Int32) (y3 : Int32), kc y2 y3 = some out → WJ p l e rmX5_vectorSize s m args below meth c (MQ below (QWi D 490 ad (cellC cI cL cS ad) out w) args s 0 0 (AW 490 ad)) 5 D 490 ad (cellC cI cL cS ad) w 4 [(0, .ref (ad 50)), (1, .int x1), (2, .int y2), (3, .int y3)] []) : WJ p l e rmX5_vectorSize s m args below meth c (MQ below (QWi D 490 ad (cellC cI cL cS ad) out w) args s 0 0 (AW 490 ad)) 5 D 490 ad (cellC cI cL cS ad) w 33 [(0, .ref (ad 50)), (1, .int x1), (3, .int x3)] [.int s2, .int s1, .int s0] := by
  unfold m_X5_vectorSize_j33 at hf
  refine j_iadd X dX5_vectorSize_33 ?_
  refine j_iadd X dX5_vectorSize_34 ?_
  obtain ⟨x2_1, ex2_1, hf⟩ := f_lt hf
  refine j_top ex2_1 ?_
  refine j_istore_n (lv' := [(0, .ref (ad 50)), (1, .int x1), (2, .int x2_1), (3, .int x3)]) X dX5_vectorSize_35 rfl (by decide) rfl ?_
  refine j_iinc (v := (x3 + (1 : Int32))) (lv' := [(0, .ref (ad 50)), (1, .int x1), (2, .int x2_1), (3, .int (x3 + (1 : Int32)))]) X 3 dX5_vectorSize_36 rfl rfl (by decide) rfl ?_
  refine j_goto (tgt := 4) X dX5_vectorSize_39 (by decide) ?_
  exact hk_kc _ _ hf
set_option maxRecDepth 100000 in
set_option maxHeartbeats 4000000 in
theorem t_X5_vectorSize_L4 (X : CX p rmX5_vectorSize s m args c cX5_vectorSize 5 RX5 wsX5_vectorSize D (tC cI cL cS) 490 ad) (Y : RX meth (some .int)) {x1 : Int32} {w : Wd} {out : Int32} : ∀ (n : Nat) (x2 : Int32) (x3 : Int32), m_X5_vectorSize_L4 x1 w n x2 x3 = some out → WJ p l e rmX5_vectorSize s m args below meth c (MQ below (QWi D 490 ad (cellC cI cL cS ad) out w) args s 0 0 (AW 490 ad)) 5 D 490 ad (cellC cI cL cS ad) w 4 [(0, .ref (ad 50)), (1, .int x1), (2, .int x2), (3, .int x3)] [] := by
  intro n
  induction n with
  | zero => intro x2 x3 hf; exact f_n hf
  | succ n ih =>
    intro x2 x3 hf
    rw [m_X5_vectorSize_L4] at hf
    refine j_iload_n X 3 dX5_vectorSize_4 rfl rfl ?_
    refine j_iconst X (v := (4 : Int32)) rfl dX5_vectorSize_5 ?_
    refine j_icmp_ge (tgt := 42) X dX5_vectorSize_6 (by decide) (fun c => ?_) (fun c => ?_)
    · replace hf := f_t c hf
      refine j_iload_n X 2 dX5_vectorSize_42 rfl rfl ?_
      exact j_iret X Y (f_s hf) rfl dX5_vectorSize_43
    replace hf := f_f c hf
    refine j_aload_n X 0 dX5_vectorSize_9 rfl rfl ?_
    refine j_iload_n X 1 dX5_vectorSize_10 rfl rfl ?_
    refine j_iload_n X 3 dX5_vectorSize_11 rfl rfl ?_
    obtain ⟨o1, ho1, hf⟩ := f_bd hf
    refine j_callVi X oS0 rfl rfl [.int x1, .int x3] (c_X5_knownOf X.2.2.2.2.2.2.2 ho1) (cwV 2 X.2.2.2.2.1 gX5_vectorSize_X5_knownOf rfl rfl rfl (by decide +kernel) ⟨Nat.le_of_ble_eq_true rfl, Nat.le_of_ble_eq_true rfl⟩) rfl rfl (Nat.le_of_ble_eq_true rfl) dX5_vectorSize_12 ?_
    refine j_istore (lv' := [(0, .ref (ad 50)), (1, .int x1), (2, .int x2), (3, .int x3), (4, .int o1)]) X dX5_vectorSize_15 (by decide) rfl ?_
    refine j_iload_n X 2 dX5_vectorSize_17 rfl rfl ?_
    refine j_iload X 4 dX5_vectorSize_18 rfl ?_
    obtain ⟨o2, ho2, hf⟩ := f_bd hf
    refine j_callSi X [.int o1] (c_X6_rangesIn X.2.2.2.2.2.2.2 ho2) (va_cwS 1 X.2.2.2.2.1 gX5_vectorSize_X6_rangesIn rfl rfl rfl (by decide +kernel) ⟨Nat.le_of_ble_eq_true rfl, Nat.le_of_ble_eq_true rfl⟩) rfl rfl (Nat.le_of_ble_eq_true rfl) dX5_vectorSize_20 ?_
    refine j_iload X 4 dX5_vectorSize_23 rfl ?_
    refine j_if_eq (tgt := 32) X dX5_vectorSize_25 (by decide) (fun c => ?_) (fun c => ?_)
    · replace hf := f_t c hf
      refine j_iconst X (v := (0 : Int32)) rfl dX5_vectorSize_32 ?_
      refine j_sub [0, 1, 3] rfl ?_
      exact t_X5_vectorSize_j33 X Y hf ih
    replace hf := f_f c hf
    refine j_iconst X (v := (1 : Int32)) rfl dX5_vectorSize_28 ?_
    refine j_goto (tgt := 33) X dX5_vectorSize_29 (by decide) ?_
    refine j_sub [0, 1, 3] rfl ?_
    exact t_X5_vectorSize_j33 X Y hf ih
set_option maxRecDepth 100000 in
set_option maxHeartbeats 4000000 in
theorem c_X5_vectorSize (hI : Inj 490 ad) {x1 : Int32} {w : Wd} {out : Int32} (hf : m_X5_vectorSize x1 w = some out) : Met l yX5_vectorSize wsX5_vectorSize rmX5_vectorSize (va_Pc [.ref (ad 50), .int x1] (PW D (tC cI cL cS) 490 ad (cellC cI cL cS ad) w)) (QWi D 490 ad (cellC cI cL cS ad) out w) 0 0 (AW 490 ad) := by
  refine mk_met (maxL := 5) (ret := (some .int)) RX5 hI (by decide) rfl rfl (Nat.le_of_ble_eq_true rfl) rfl rfl (fun p e s m args below meth c X Y => ?_)
  unfold m_X5_vectorSize at hf
  refine j_iconst X (v := (0 : Int32)) rfl dX5_vectorSize_0 ?_
  refine j_istore_n (lv' := [(0, .ref (ad 50)), (1, .int x1), (2, .int (0 : Int32))]) X dX5_vectorSize_1 rfl (by decide) rfl ?_
  refine j_iconst X (v := (0 : Int32)) rfl dX5_vectorSize_2 ?_
  refine j_istore_n (lv' := [(0, .ref (ad 50)), (1, .int x1), (2, .int (0 : Int32)), (3, .int (0 : Int32))]) X dX5_vectorSize_3 rfl (by decide) rfl ?_
  refine t_X5_vectorSize_L4 X Y _ _ _ hf
end WALK11
