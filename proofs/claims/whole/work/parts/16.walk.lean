/-! ===== the bytecode does what the model says (printed by wip/whole/tools/gen.py) ===== -/
section WALK16
variable {p : Program} {l : Launch} {e : Env} {s : State} {m : MethodId} {args : Array Value} {below : List Frame} {meth : Method} {c : Code} {D : va_G} {cI cL cS : ClassId} {ad : Nat → Nat}
abbrev rmX8_keeps : Room := { frames := 3, cells := 0, slots := 0, locals := 71 }
theorem inX8_keeps_X8 : ∀ w ∈ wsX80, w ∈ wsX8_keeps := fun _ h => List.mem_cons_of_mem _ (List.mem_append_right _ h)
set_option maxRecDepth 100000 in
set_option maxHeartbeats 4000000 in
theorem t_X8_keeps_j131 (X : CX p rmX8_keeps s m args c cX8_keeps 6 RX8 wsX8_keeps D (tR cI) 8 ad) (Y : RX meth none) {x1 : Int32} {x4 : Int32} {s0 : Int32} {w : Wd} {kc : Int32 → Int32 → Wd → Option (Wd)} {kx138 : Int32 → Wd → Option (Wd)} {out : Wd} (hf : m_X8_keeps_j131 x1 x4 s0 w kc kx138 = some out) (hk_kc : ∀ (y3 : Int32) (y4 : Int32) (v : Wd), kc y3 y4 v = some out → WJ p l e rmX8_keeps s m args below meth c (MQ below (QWv D 8 ad (cellR cI ad) out) args s 0 0 (AW 8 ad)) 6 D 8 ad (cellR cI ad) v 84 [(0, .ref (ad 0)), (1, .int x1), (3, .int y3), (4, .int y4)] []) (hk_kx138 : ∀ (y3 : Int32) (v : Wd), kx138 y3 v = some out → WJ p l e rmX8_keeps s m args below meth c (MQ below (QWv D 8 ad (cellR cI ad) out) args s 0 0 (AW 8 ad)) 6 D 8 ad (cellR cI ad) v 138 [(0, .ref (ad 0)), (1, .int x1), (3, .int y3)] []) : WJ p l e rmX8_keeps s m args below meth c (MQ below (QWv D 8 ad (cellR cI ad) out) args s 0 0 (AW 8 ad)) 6 D 8 ad (cellR cI ad) w 131 [(0, .ref (ad 0)), (1, .int x1), (4, .int x4)] [.int s0] := by
  unfold m_X8_keeps_j131 at hf
  refine j_istore_n (lv' := [(0, .ref (ad 0)), (1, .int x1), (3, .int s0), (4, .int x4)]) X dX8_keeps_131 rfl (by decide) rfl ?_
  refine j_iinc (v := (x4 + (-1 : Int32))) (lv' := [(0, .ref (ad 0)), (1, .int x1), (3, .int s0), (4, .int (x4 + (-1 : Int32)))]) X 3 dX8_keeps_132 rfl rfl (by decide) rfl ?_
  refine j_goto (tgt := 84) X dX8_keeps_135 (by decide) ?_
  exact hk_kc _ _ _ hf
set_option maxRecDepth 100000 in
set_option maxHeartbeats 4000000 in
theorem t_X8_keeps_L84 (X : CX p rmX8_keeps s m args c cX8_keeps 6 RX8 wsX8_keeps D (tR cI) 8 ad) (Y : RX meth none) {x1 : Int32} {kx138 : Int32 → Wd → Option (Wd)} {out : Wd} (hk_kx138 : ∀ (y3 : Int32) (v : Wd), kx138 y3 v = some out → WJ p l e rmX8_keeps s m args below meth c (MQ below (QWv D 8 ad (cellR cI ad) out) args s 0 0 (AW 8 ad)) 6 D 8 ad (cellR cI ad) v 138 [(0, .ref (ad 0)), (1, .int x1), (3, .int y3)] []) : ∀ (n : Nat) (x3 : Int32) (x4 : Int32) (w : Wd), m_X8_keeps_L84 x1 kx138 n x3 x4 w = some out → WJ p l e rmX8_keeps s m args below meth c (MQ below (QWv D 8 ad (cellR cI ad) out) args s 0 0 (AW 8 ad)) 6 D 8 ad (cellR cI ad) w 84 [(0, .ref (ad 0)), (1, .int x1), (3, .int x3), (4, .int x4)] [] := by
  intro n
  induction n with
  | zero => intro x3 x4 w hf; exact f_n hf
  | succ n ih =>
    intro x3 x4 w hf
    rw [m_X8_keeps_L84] at hf
    refine j_iload X 3 dX8_keeps_84 rfl ?_
    refine j_if_lt (tgt := 138) X dX8_keeps_86 (by decide) (fun c => ?_) (fun c => ?_)
    · replace hf := f_t c hf
      refine j_sub [0, 1, 2] rfl ?_
      exact hk_kx138 _ _ hf
    replace hf := f_f c hf
    refine j_aload_n X 0 dX8_keeps_89 rfl rfl ?_
    refine j_get (ref := "ProxyVersionsModel") (index := 7) (v := .ref (ad 1)) X oMo inX8_keeps_X8 rfl 0 (by decide) (List.mem_of_getElem? (i := 1) rfl) rfl rfl dX8_keeps_90 ?_
    refine j_sipush X (v := (nI 447)) (by decide) dX8_keeps_93 ?_
    refine j_bipush X (v := (nI 96)) (by decide) dX8_keeps_96 ?_
    refine j_iload_n X 1 dX8_keeps_98 rfl rfl ?_
    refine j_imul X dX8_keeps_99 ?_
    refine j_iadd X dX8_keeps_100 ?_
    refine j_iload X 3 dX8_keeps_101 rfl ?_
    refine j_iadd X dX8_keeps_103 ?_
    obtain ⟨hi1, hf⟩ := f_c hf
    refine j_iald X 0 rfl r1 hi1 dX8_keeps_104 ?_
    obtain ⟨x5_2, ex5_2, hf⟩ := f_lt hf
    refine j_top ex5_2 ?_
    refine j_istore (lv' := [(0, .ref (ad 0)), (1, .int x1), (3, .int x3), (4, .int x4), (5, .int x5_2)]) X dX8_keeps_105 (by decide) rfl ?_
    refine j_iload X 4 dX8_keeps_107 rfl ?_
    refine j_bipush X (v := (nI 100)) (by decide) dX8_keeps_109 ?_
    refine j_irem X (by decide) dX8_keeps_111 ?_
    refine j_aload_n X 0 dX8_keeps_112 rfl rfl ?_
    refine j_get (ref := "ProxyVersionsModel") (index := 22) (v := .ref (ad 5)) X oMo inX8_keeps_X8 rfl 6 (by decide) (List.mem_of_getElem? (i := 2) rfl) rfl rfl dX8_keeps_113 ?_
    refine j_iload X 4 dX8_keeps_116 rfl ?_
    refine j_bipush X (v := (nI 100)) (by decide) dX8_keeps_118 ?_
    refine j_idiv X (by decide) dX8_keeps_120 ?_
    obtain ⟨hi3, hf⟩ := f_c hf
    refine j_iald X 0 rfl r5 hi3 dX8_keeps_121 ?_
    refine j_icmp_gt (tgt := 130) X dX8_keeps_122 (by decide) (fun c => ?_) (fun c => ?_)
    · replace hf := f_t c hf
      refine j_iload_n X 2 dX8_keeps_130 rfl rfl ?_
      refine j_sub [0, 1, 3] rfl ?_
      exact t_X8_keeps_j131 X Y hf ih hk_kx138
    replace hf := f_f c hf
    refine j_iload X 3 dX8_keeps_125 rfl ?_
    refine j_goto (tgt := 131) X dX8_keeps_127 (by decide) ?_
    refine j_sub [0, 1, 3] rfl ?_
    exact t_X8_keeps_j131 X Y hf ih hk_kx138
set_option maxRecDepth 100000 in
set_option maxHeartbeats 4000000 in
theorem t_X8_keeps_L155 (X : CX p rmX8_keeps s m args c cX8_keeps 6 RX8 wsX8_keeps D (tR cI) 8 ad) (Y : RX meth none) {x1 : Int32} {kx210 : Wd → Option (Wd)} {out : Wd} (hk_kx210 : ∀  (v : Wd), kx210 v = some out → WJ p l e rmX8_keeps s m args below meth c (MQ below (QWv D 8 ad (cellR cI ad) out) args s 0 0 (AW 8 ad)) 6 D 8 ad (cellR cI ad) v 210 [(0, .ref (ad 0))] []) : ∀ (n : Nat) (x4 : Int32) (w : Wd), m_X8_keeps_L155 x1 kx210 n x4 w = some out → WJ p l e rmX8_keeps s m args below meth c (MQ below (QWv D 8 ad (cellR cI ad) out) args s 0 0 (AW 8 ad)) 6 D 8 ad (cellR cI ad) w 155 [(0, .ref (ad 0)), (1, .int x1), (4, .int x4)] [] := by
  intro n
  induction n with
  | zero => intro x4 w hf; exact f_n hf
  | succ n ih =>
    intro x4 w hf
    rw [m_X8_keeps_L155] at hf
    refine j_iload X 2 dX8_keeps_155 rfl ?_
    refine j_aload_n X 0 dX8_keeps_157 rfl rfl ?_
    refine j_get (ref := "ProxyVersionsModel") (index := 7) (v := .ref (ad 1)) X oMo inX8_keeps_X8 rfl 0 (by decide) (List.mem_of_getElem? (i := 1) rfl) rfl rfl dX8_keeps_158 ?_
    refine j_sipush X (v := (nI 439)) (by decide) dX8_keeps_161 ?_
    refine j_iload_n X 1 dX8_keeps_164 rfl rfl ?_
    refine j_iadd X dX8_keeps_165 ?_
    obtain ⟨hi1, hf⟩ := f_c hf
    refine j_iald X 0 rfl r1 hi1 dX8_keeps_166 ?_
    refine j_icmp_ge (tgt := 210) X dX8_keeps_167 (by decide) (fun c => ?_) (fun c => ?_)
    · replace hf := f_t c hf
      refine j_sub [0] rfl ?_
      exact hk_kx210 _ hf
    replace hf := f_f c hf
    refine j_aload_n X 0 dX8_keeps_170 rfl rfl ?_
    refine j_get (ref := "ProxyVersionsModel") (index := 7) (v := .ref (ad 1)) X oMo inX8_keeps_X8 rfl 0 (by decide) (List.mem_of_getElem? (i := 1) rfl) rfl rfl dX8_keeps_171 ?_
    refine j_sipush X (v := (nI 447)) (by decide) dX8_keeps_174 ?_
    refine j_bipush X (v := (nI 96)) (by decide) dX8_keeps_177 ?_
    refine j_iload_n X 1 dX8_keeps_179 rfl rfl ?_
    refine j_imul X dX8_keeps_180 ?_
    refine j_iadd X dX8_keeps_181 ?_
    refine j_iload X 2 dX8_keeps_182 rfl ?_
    refine j_iadd X dX8_keeps_184 ?_
    refine j_aload_n X 0 dX8_keeps_185 rfl rfl ?_
    refine j_get (ref := "ProxyVersionsModel") (index := 7) (v := .ref (ad 1)) X oMo inX8_keeps_X8 rfl 0 (by decide) (List.mem_of_getElem? (i := 1) rfl) rfl rfl dX8_keeps_186 ?_
    refine j_sipush X (v := (nI 447)) (by decide) dX8_keeps_189 ?_
    refine j_bipush X (v := (nI 96)) (by decide) dX8_keeps_192 ?_
    refine j_iload_n X 1 dX8_keeps_194 rfl rfl ?_
    refine j_imul X dX8_keeps_195 ?_
    refine j_iadd X dX8_keeps_196 ?_
    refine j_iload X 2 dX8_keeps_197 rfl ?_
    refine j_iadd X dX8_keeps_199 ?_
    refine j_iconst X (v := (nI 1)) (by decide) dX8_keeps_200 ?_
    refine j_iadd X dX8_keeps_201 ?_
    obtain ⟨hi2, hf⟩ := f_c hf
    refine j_iald X 0 rfl r1 hi2 dX8_keeps_202 ?_
    obtain ⟨hi3, hf⟩ := f_c hf
    obtain ⟨w4, ew4, hf⟩ := f_lt hf
    refine j_iast X 0 rfl r1 hi3 dX8_keeps_203 ew4 ?_
    refine j_iinc (v := (x4 + (nI 1))) (lv' := [(0, .ref (ad 0)), (1, .int x1), (4, .int (x4 + (nI 1)))]) X 2 dX8_keeps_204 rfl rfl (by decide) rfl ?_
    refine j_goto (tgt := 155) X dX8_keeps_207 (by decide) ?_
    exact ih _ _ hf
set_option maxRecDepth 100000 in
set_option maxHeartbeats 4000000 in
theorem c_X8_keeps (hI : Inj 8 ad) {x1 : Int32} {x2 : Int32} {w : Wd} {out : Wd} (hf : m_X8_keeps x1 x2 w = some out) : Met l yX8_keeps wsX8_keeps rmX8_keeps (va_Pc [.ref (ad 0), .int x1, .int x2] (PW D (tR cI) 8 ad (cellR cI ad) w)) (QWv D 8 ad (cellR cI ad) out) 0 0 (AW 8 ad) := by
  refine mk_met (maxL := 6) (ret := none) RX8 hI (by decide) rfl rfl (Nat.le_of_ble_eq_true rfl) rfl rfl (fun p e s m args below meth c X Y => ?_)
  unfold m_X8_keeps at hf
  refine j_aload_n X 0 dX8_keeps_0 rfl rfl ?_
  refine j_get (ref := "ProxyVersionsModel") (index := 7) (v := .ref (ad 1)) X oMo inX8_keeps_X8 rfl 0 (by decide) (List.mem_of_getElem? (i := 1) rfl) rfl rfl dX8_keeps_1 ?_
  refine j_sipush X (v := (nI 447)) (by decide) dX8_keeps_4 ?_
  refine j_bipush X (v := (nI 96)) (by decide) dX8_keeps_7 ?_
  refine j_iload_n X 1 dX8_keeps_9 rfl rfl ?_
  refine j_imul X dX8_keeps_10 ?_
  refine j_iadd X dX8_keeps_11 ?_
  refine j_aload_n X 0 dX8_keeps_12 rfl rfl ?_
  refine j_get (ref := "ProxyVersionsModel") (index := 7) (v := .ref (ad 1)) X oMo inX8_keeps_X8 rfl 0 (by decide) (List.mem_of_getElem? (i := 1) rfl) rfl rfl dX8_keeps_13 ?_
  refine j_sipush X (v := (nI 439)) (by decide) dX8_keeps_16 ?_
  refine j_iload_n X 1 dX8_keeps_19 rfl rfl ?_
  refine j_iadd X dX8_keeps_20 ?_
  obtain ⟨hi1, hf⟩ := f_c hf
  refine j_iald X 0 rfl r1 hi1 dX8_keeps_21 ?_
  refine j_iadd X dX8_keeps_22 ?_
  refine j_iload_n X 2 dX8_keeps_23 rfl rfl ?_
  obtain ⟨hi2, hf⟩ := f_c hf
  obtain ⟨w3, ew3, hf⟩ := f_lt hf
  refine j_iast X 0 rfl r1 hi2 dX8_keeps_24 ew3 ?_
  refine j_aload_n X 0 dX8_keeps_25 rfl rfl ?_
  refine j_get (ref := "ProxyVersionsModel") (index := 7) (v := .ref (ad 1)) X oMo inX8_keeps_X8 rfl 0 (by decide) (List.mem_of_getElem? (i := 1) rfl) rfl rfl dX8_keeps_26 ?_
  refine j_sipush X (v := (nI 439)) (by decide) dX8_keeps_29 ?_
  refine j_iload_n X 1 dX8_keeps_32 rfl rfl ?_
  refine j_iadd X dX8_keeps_33 ?_
  refine j_dup2 X rfl rfl dX8_keeps_34 ?_
  obtain ⟨hi4, hf⟩ := f_c hf
  refine j_iald X 0 rfl r1 hi4 dX8_keeps_35 ?_
  refine j_iconst X (v := (nI 1)) (by decide) dX8_keeps_36 ?_
  refine j_iadd X dX8_keeps_37 ?_
  obtain ⟨hi5, hf⟩ := f_c hf
  obtain ⟨w6, ew6, hf⟩ := f_lt hf
  refine j_iast X 0 rfl r1 hi5 dX8_keeps_38 ew6 ?_
  refine j_iload_n X 1 dX8_keeps_39 rfl rfl ?_
  refine j_if_eq (tgt := 62) X dX8_keeps_40 (by decide) (fun c => ?_) (fun c => ?_)
  · replace hf := f_t c hf
    exact j_vret X Y (f_s hf) dX8_keeps_62
  replace hf := f_f c hf
  refine j_aload_n X 0 dX8_keeps_43 rfl rfl ?_
  refine j_get (ref := "ProxyVersionsModel") (index := 7) (v := .ref (ad 1)) X oMo inX8_keeps_X8 rfl 0 (by decide) (List.mem_of_getElem? (i := 1) rfl) rfl rfl dX8_keeps_44 ?_
  refine j_sipush X (v := (nI 439)) (by decide) dX8_keeps_47 ?_
  refine j_iload_n X 1 dX8_keeps_50 rfl rfl ?_
  refine j_iadd X dX8_keeps_51 ?_
  obtain ⟨hi7, hf⟩ := f_c hf
  refine j_iald X 0 rfl r1 hi7 dX8_keeps_52 ?_
  refine j_aload_n X 0 dX8_keeps_53 rfl rfl ?_
  refine j_get (ref := "ProxyVersionsModel") (index := 7) (v := .ref (ad 1)) X oMo inX8_keeps_X8 rfl 0 (by decide) (List.mem_of_getElem? (i := 1) rfl) rfl rfl dX8_keeps_54 ?_
  refine j_iconst X (v := (nI 2)) (by decide) dX8_keeps_57 ?_
  obtain ⟨hi8, hf⟩ := f_c hf
  refine j_iald X 0 rfl r1 hi8 dX8_keeps_58 ?_
  refine j_icmp_gt (tgt := 63) X dX8_keeps_59 (by decide) (fun c => ?_) (fun c => ?_)
  · replace hf := f_t c hf
    refine j_aload_n X 0 dX8_keeps_63 rfl rfl ?_
    refine j_iload_n X 1 dX8_keeps_64 rfl rfl ?_
    obtain ⟨o9, ho9, hf⟩ := f_bd hf
    refine j_callVv X oMo rfl rfl [.int x1] (c_X8_serves X.2.2.2.2.2.2.2 ho9) (cwV 1 X.2.2.2.2.1 gX8_keeps_X8_serves rfl rfl rfl (by decide +kernel) ⟨Nat.le_of_ble_eq_true rfl, Nat.le_of_ble_eq_true rfl⟩) rfl rfl (Nat.le_of_ble_eq_true rfl) dX8_keeps_65 ?_
    refine j_iconst X (v := (nI 0)) (by decide) dX8_keeps_68 ?_
    refine j_istore_n (lv' := [(0, .ref (ad 0)), (1, .int x1), (2, .int x2), (3, .int (nI 0))]) X dX8_keeps_69 rfl (by decide) rfl ?_
    refine j_aload_n X 0 dX8_keeps_70 rfl rfl ?_
    refine j_get (ref := "ProxyVersionsModel") (index := 7) (v := .ref (ad 1)) X oMo inX8_keeps_X8 rfl 0 (by decide) (List.mem_of_getElem? (i := 1) rfl) rfl rfl dX8_keeps_71 ?_
    refine j_sipush X (v := (nI 439)) (by decide) dX8_keeps_74 ?_
    refine j_iload_n X 1 dX8_keeps_77 rfl rfl ?_
    refine j_iadd X dX8_keeps_78 ?_
    obtain ⟨hi10, hf⟩ := f_c hf
    refine j_iald X 0 rfl r1 hi10 dX8_keeps_79 ?_
    refine j_iconst X (v := (nI 1)) (by decide) dX8_keeps_80 ?_
    refine j_isub X dX8_keeps_81 ?_
    obtain ⟨x4_11, ex4_11, hf⟩ := f_lt hf
    refine j_top ex4_11 ?_
    refine j_istore (lv' := [(0, .ref (ad 0)), (1, .int x1), (2, .int x2), (3, .int (nI 0)), (4, .int x4_11)]) X dX8_keeps_82 (by decide) rfl ?_
    refine j_sub [0, 1, 3, 4] rfl ?_
    refine t_X8_keeps_L84 X Y ?_ _ _ _ _ hf
    intro x3_12 w13 hf
    refine j_aload_n X 0 dX8_keeps_138 rfl rfl ?_
    refine j_get (ref := "ProxyVersionsModel") (index := 7) (v := .ref (ad 1)) X oMo inX8_keeps_X8 rfl 0 (by decide) (List.mem_of_getElem? (i := 1) rfl) rfl rfl dX8_keeps_139 ?_
    refine j_sipush X (v := (nI 439)) (by decide) dX8_keeps_142 ?_
    refine j_iload_n X 1 dX8_keeps_145 rfl rfl ?_
    refine j_iadd X dX8_keeps_146 ?_
    refine j_dup2 X rfl rfl dX8_keeps_147 ?_
    obtain ⟨hi14, hf⟩ := f_c hf
    refine j_iald X 0 rfl r1 hi14 dX8_keeps_148 ?_
    refine j_iconst X (v := (nI 1)) (by decide) dX8_keeps_149 ?_
    refine j_isub X dX8_keeps_150 ?_
    obtain ⟨hi15, hf⟩ := f_c hf
    obtain ⟨w16, ew16, hf⟩ := f_lt hf
    refine j_iast X 0 rfl r1 hi15 dX8_keeps_151 ew16 ?_
    refine j_iload_n X 2 dX8_keeps_152 rfl rfl ?_
    refine j_istore (lv' := [(0, .ref (ad 0)), (1, .int x1), (3, .int x3_12), (4, .int x3_12)]) X dX8_keeps_153 (by decide) rfl ?_
    refine j_sub [0, 1, 3] rfl ?_
    refine t_X8_keeps_L155 X Y ?_ _ _ _ hf
    intro w17 hf
    refine j_aload_n X 0 dX8_keeps_210 rfl rfl ?_
    refine j_get (ref := "ProxyVersionsModel") (index := 7) (v := .ref (ad 1)) X oMo inX8_keeps_X8 rfl 0 (by decide) (List.mem_of_getElem? (i := 1) rfl) rfl rfl dX8_keeps_211 ?_
    refine j_bipush X (v := (nI 6)) (by decide) dX8_keeps_214 ?_
    refine j_dup2 X rfl rfl dX8_keeps_216 ?_
    obtain ⟨hi18, hf⟩ := f_c hf
    refine j_iald X 0 rfl r1 hi18 dX8_keeps_217 ?_
    refine j_iconst X (v := (nI 1)) (by decide) dX8_keeps_218 ?_
    refine j_iadd X dX8_keeps_219 ?_
    obtain ⟨hi19, hf⟩ := f_c hf
    obtain ⟨w20, ew20, hf⟩ := f_lt hf
    refine j_iast X 0 rfl r1 hi19 dX8_keeps_220 ew20 ?_
    exact j_vret X Y (f_s hf) dX8_keeps_221
  replace hf := f_f c hf
  exact j_vret X Y (f_s hf) dX8_keeps_62
abbrev rmX8_queueOf : Room := { frames := 0, cells := 0, slots := 0, locals := 0 }
set_option maxRecDepth 100000 in
set_option maxHeartbeats 4000000 in
theorem c_X8_queueOf (hI : Inj 8 ad) {x0 : Int32} {x1 : Int32} {w : Wd} {out : Int32} (hf : m_X8_queueOf x0 x1 = some out) : Met l yX8_queueOf wsX8_queueOf rmX8_queueOf (va_Pc [.int x0, .int x1] (PW D (tR cI) 8 ad (cellR cI ad) w)) (QWi D 8 ad (cellR cI ad) out w) 0 0 (AW 8 ad) := by
  refine mk_met (maxL := 2) (ret := (some .int)) RX8 hI (by decide) rfl rfl (Nat.le_of_ble_eq_true rfl) rfl rfl (fun p e s m args below meth c X Y => ?_)
  unfold m_X8_queueOf at hf
  refine j_sipush X (v := (nI 1215)) (by decide) dX8_queueOf_0 ?_
  refine j_bipush X (v := (nI 26)) (by decide) dX8_queueOf_3 ?_
  refine j_iload_n X 0 dX8_queueOf_5 rfl rfl ?_
  refine j_imul X dX8_queueOf_6 ?_
  refine j_iadd X dX8_queueOf_7 ?_
  refine j_bipush X (v := (nI 13)) (by decide) dX8_queueOf_8 ?_
  refine j_iload_n X 1 dX8_queueOf_10 rfl rfl ?_
  refine j_imul X dX8_queueOf_11 ?_
  refine j_iadd X dX8_queueOf_12 ?_
  exact j_iret X Y (f_s hf) rfl dX8_queueOf_13
abbrev rmX8_puts : Room := { frames := 1, cells := 0, slots := 0, locals := 21 }
theorem inX8_puts_X8 : ∀ w ∈ wsX80, w ∈ wsX8_puts := fun _ h => List.mem_cons_of_mem _ (List.mem_append_right _ h)
set_option maxRecDepth 100000 in
set_option maxHeartbeats 4000000 in
theorem c_X8_puts (hI : Inj 8 ad) {x1 : Int32} {x2 : Int32} {x3 : Int32} {w : Wd} {out : Wd} (hf : m_X8_puts x1 x2 x3 w = some out) : Met l yX8_puts wsX8_puts rmX8_puts (va_Pc [.ref (ad 0), .int x1, .int x2, .int x3] (PW D (tR cI) 8 ad (cellR cI ad) w)) (QWv D 8 ad (cellR cI ad) out) 0 0 (AW 8 ad) := by
  refine mk_met (maxL := 5) (ret := none) RX8 hI (by decide) rfl rfl (Nat.le_of_ble_eq_true rfl) rfl rfl (fun p e s m args below meth c X Y => ?_)
  unfold m_X8_puts at hf
  refine j_iload_n X 1 dX8_puts_0 rfl rfl ?_
  refine j_iload_n X 2 dX8_puts_1 rfl rfl ?_
  obtain ⟨o1, ho1, hf⟩ := f_bd hf
  refine j_callSi X [.int x1, .int x2] (c_X8_queueOf X.2.2.2.2.2.2.2 ho1) (va_cwS 2 X.2.2.2.2.1 gX8_puts_X8_queueOf rfl rfl rfl (by decide +kernel) ⟨Nat.le_of_ble_eq_true rfl, Nat.le_of_ble_eq_true rfl⟩) rfl rfl (Nat.le_of_ble_eq_true rfl) dX8_puts_2 ?_
  refine j_istore (lv' := [(0, .ref (ad 0)), (1, .int x1), (2, .int x2), (3, .int x3), (4, .int o1)]) X dX8_puts_5 (by decide) rfl ?_
  refine j_aload_n X 0 dX8_puts_7 rfl rfl ?_
  refine j_get (ref := "ProxyVersionsModel") (index := 7) (v := .ref (ad 1)) X oMo inX8_puts_X8 rfl 0 (by decide) (List.mem_of_getElem? (i := 1) rfl) rfl rfl dX8_puts_8 ?_
  refine j_iload X 4 dX8_puts_11 rfl ?_
  obtain ⟨hi2, hf⟩ := f_c hf
  refine j_iald X 0 rfl r1 hi2 dX8_puts_13 ?_
  refine j_bipush X (v := (nI 12)) (by decide) dX8_puts_14 ?_
  refine j_icmp_ne (tgt := 32) X dX8_puts_16 (by decide) (fun c => ?_) (fun c => ?_)
  · replace hf := f_t c hf
    refine j_aload_n X 0 dX8_puts_32 rfl rfl ?_
    refine j_get (ref := "ProxyVersionsModel") (index := 7) (v := .ref (ad 1)) X oMo inX8_puts_X8 rfl 0 (by decide) (List.mem_of_getElem? (i := 1) rfl) rfl rfl dX8_puts_33 ?_
    refine j_iload X 4 dX8_puts_36 rfl ?_
    refine j_dup2 X rfl rfl dX8_puts_38 ?_
    obtain ⟨hi3, hf⟩ := f_c hf
    refine j_iald X 0 rfl r1 hi3 dX8_puts_39 ?_
    refine j_iconst X (v := (nI 1)) (by decide) dX8_puts_40 ?_
    refine j_iadd X dX8_puts_41 ?_
    obtain ⟨hi4, hf⟩ := f_c hf
    obtain ⟨w5, ew5, hf⟩ := f_lt hf
    refine j_iast X 0 rfl r1 hi4 dX8_puts_42 ew5 ?_
    refine j_aload_n X 0 dX8_puts_43 rfl rfl ?_
    refine j_get (ref := "ProxyVersionsModel") (index := 7) (v := .ref (ad 1)) X oMo inX8_puts_X8 rfl 0 (by decide) (List.mem_of_getElem? (i := 1) rfl) rfl rfl dX8_puts_44 ?_
    refine j_iload X 4 dX8_puts_47 rfl ?_
    refine j_aload_n X 0 dX8_puts_49 rfl rfl ?_
    refine j_get (ref := "ProxyVersionsModel") (index := 7) (v := .ref (ad 1)) X oMo inX8_puts_X8 rfl 0 (by decide) (List.mem_of_getElem? (i := 1) rfl) rfl rfl dX8_puts_50 ?_
    refine j_iload X 4 dX8_puts_53 rfl ?_
    obtain ⟨hi6, hf⟩ := f_c hf
    refine j_iald X 0 rfl r1 hi6 dX8_puts_55 ?_
    refine j_iadd X dX8_puts_56 ?_
    refine j_iload_n X 3 dX8_puts_57 rfl rfl ?_
    obtain ⟨hi7, hf⟩ := f_c hf
    obtain ⟨w8, ew8, hf⟩ := f_lt hf
    refine j_iast X 0 rfl r1 hi7 dX8_puts_58 ew8 ?_
    exact j_vret X Y (f_s hf) dX8_puts_59
  replace hf := f_fn c hf
  refine j_aload_n X 0 dX8_puts_19 rfl rfl ?_
  refine j_get (ref := "ProxyVersionsModel") (index := 7) (v := .ref (ad 1)) X oMo inX8_puts_X8 rfl 0 (by decide) (List.mem_of_getElem? (i := 1) rfl) rfl rfl dX8_puts_20 ?_
  refine j_iconst X (v := (nI 4)) (by decide) dX8_puts_23 ?_
  refine j_dup2 X rfl rfl dX8_puts_24 ?_
  obtain ⟨hi9, hf⟩ := f_c hf
  refine j_iald X 0 rfl r1 hi9 dX8_puts_25 ?_
  refine j_iconst X (v := (nI 1)) (by decide) dX8_puts_26 ?_
  refine j_iadd X dX8_puts_27 ?_
  obtain ⟨hi10, hf⟩ := f_c hf
  obtain ⟨w11, ew11, hf⟩ := f_lt hf
  refine j_iast X 0 rfl r1 hi10 dX8_puts_28 ew11 ?_
  refine j_goto (tgt := 59) X dX8_puts_29 (by decide) ?_
  exact j_vret X Y (f_s hf) dX8_puts_59
abbrev rmX8_learns : Room := { frames := 4, cells := 0, slots := 0, locals := 96 }
theorem inX8_learns_X8 : ∀ w ∈ wsX80, w ∈ wsX8_learns := fun _ h => List.mem_cons_of_mem _ (List.mem_append_right _ h)
set_option maxRecDepth 100000 in
set_option maxHeartbeats 4000000 in
theorem t_X8_learns_j98 (X : CX p rmX8_learns s m args c cX8_learns 5 RX8 wsX8_learns D (tR cI) 8 ad) (Y : RX meth none) {x1 : Int32} {x2 : Int32} {x3 : Int32} {x4 : Int32} {w : Wd} {kc : Int32 → Wd → Option (Wd)} {out : Wd} (hf : m_X8_learns_j98 x1 x2 x3 x4 w kc = some out) (hk_kc : ∀ (y4 : Int32) (v : Wd), kc y4 v = some out → WJ p l e rmX8_learns s m args below meth c (MQ below (QWv D 8 ad (cellR cI ad) out) args s 0 0 (AW 8 ad)) 5 D 8 ad (cellR cI ad) v 59 [(0, .ref (ad 0)), (1, .int x1), (2, .int x2), (3, .int x3), (4, .int y4)] []) : WJ p l e rmX8_learns s m args below meth c (MQ below (QWv D 8 ad (cellR cI ad) out) args s 0 0 (AW 8 ad)) 5 D 8 ad (cellR cI ad) w 98 [(0, .ref (ad 0)), (1, .int x1), (2, .int x2), (3, .int x3), (4, .int x4)] [] := by
  unfold m_X8_learns_j98 at hf
  refine j_iinc (v := (x4 + (nI 1))) (lv' := [(0, .ref (ad 0)), (1, .int x1), (2, .int x2), (3, .int x3), (4, .int (x4 + (nI 1)))]) X 4 dX8_learns_98 rfl rfl (by decide) rfl ?_
  refine j_goto (tgt := 59) X dX8_learns_101 (by decide) ?_
  exact hk_kc _ _ hf
set_option maxRecDepth 100000 in
set_option maxHeartbeats 4000000 in
theorem t_X8_learns_L59 (X : CX p rmX8_learns s m args c cX8_learns 5 RX8 wsX8_learns D (tR cI) 8 ad) (Y : RX meth none) {x1 : Int32} {x2 : Int32} {x3 : Int32} {out : Wd} : ∀ (n : Nat) (x4 : Int32) (w : Wd), m_X8_learns_L59 x1 x2 x3 n x4 w = some out → WJ p l e rmX8_learns s m args below meth c (MQ below (QWv D 8 ad (cellR cI ad) out) args s 0 0 (AW 8 ad)) 5 D 8 ad (cellR cI ad) w 59 [(0, .ref (ad 0)), (1, .int x1), (2, .int x2), (3, .int x3), (4, .int x4)] [] := by
  intro n
  induction n with
  | zero => intro x4 w hf; exact f_n hf
  | succ n ih =>
    intro x4 w hf
    rw [m_X8_learns_L59] at hf
    refine j_iload X 4 dX8_learns_59 rfl ?_
    refine j_aload_n X 0 dX8_learns_61 rfl rfl ?_
    refine j_get (ref := "ProxyVersionsModel") (index := 7) (v := .ref (ad 1)) X oMo inX8_learns_X8 rfl 0 (by decide) (List.mem_of_getElem? (i := 1) rfl) rfl rfl dX8_learns_62 ?_
    refine j_iconst X (v := (nI 0)) (by decide) dX8_learns_65 ?_
    obtain ⟨hi1, hf⟩ := f_c hf
    refine j_iald X 0 rfl r1 hi1 dX8_learns_66 ?_
    refine j_icmp_ge (tgt := 104) X dX8_learns_67 (by decide) (fun c => ?_) (fun c => ?_)
    · replace hf := f_t c hf
      exact j_vret X Y (f_s hf) dX8_learns_104
    replace hf := f_f c hf
    refine j_aload_n X 0 dX8_learns_70 rfl rfl ?_
    refine j_get (ref := "ProxyVersionsModel") (index := 7) (v := .ref (ad 1)) X oMo inX8_learns_X8 rfl 0 (by decide) (List.mem_of_getElem? (i := 1) rfl) rfl rfl dX8_learns_71 ?_
    refine j_bipush X (v := (nI 7)) (by decide) dX8_learns_74 ?_
    refine j_iload X 4 dX8_learns_76 rfl ?_
    refine j_iadd X dX8_learns_78 ?_
    obtain ⟨hi2, hf⟩ := f_c hf
    refine j_iald X 0 rfl r1 hi2 dX8_learns_79 ?_
    refine j_iload_n X 1 dX8_learns_80 rfl rfl ?_
    refine j_icmp_ne (tgt := 98) X dX8_learns_81 (by decide) (fun c => ?_) (fun c => ?_)
    · replace hf := f_t c hf
      exact t_X8_learns_j98 X Y hf ih
    replace hf := f_fn c hf
    refine j_iload X 4 dX8_learns_84 rfl ?_
    refine j_iload_n X 3 dX8_learns_86 rfl rfl ?_
    refine j_icmp_eq (tgt := 98) X dX8_learns_87 (by decide) (fun c => ?_) (fun c => ?_)
    · replace hf := f_t c hf
      exact t_X8_learns_j98 X Y hf ih
    replace hf := f_f c hf
    refine j_aload_n X 0 dX8_learns_90 rfl rfl ?_
    refine j_iload X 4 dX8_learns_91 rfl ?_
    refine j_iconst X (v := (nI 1)) (by decide) dX8_learns_93 ?_
    refine j_iload_n X 2 dX8_learns_94 rfl rfl ?_
    obtain ⟨o3, ho3, hf⟩ := f_bd hf
    refine j_callVv X oMo rfl rfl [.int x4, .int (nI 1), .int x2] (c_X8_puts X.2.2.2.2.2.2.2 ho3) (cwV 3 X.2.2.2.2.1 gX8_learns_X8_puts rfl rfl rfl (by decide +kernel) ⟨Nat.le_of_ble_eq_true rfl, Nat.le_of_ble_eq_true rfl⟩) rfl rfl (Nat.le_of_ble_eq_true rfl) dX8_learns_95 ?_
    exact t_X8_learns_j98 X Y hf ih
set_option maxRecDepth 100000 in
set_option maxHeartbeats 4000000 in
theorem t_X8_learns_j56 (X : CX p rmX8_learns s m args c cX8_learns 5 RX8 wsX8_learns D (tR cI) 8 ad) (Y : RX meth none) {x1 : Int32} {x2 : Int32} {x3 : Int32} {w : Wd} {out : Wd} (hf : m_X8_learns_j56 x1 x2 x3 w = some out) : WJ p l e rmX8_learns s m args below meth c (MQ below (QWv D 8 ad (cellR cI ad) out) args s 0 0 (AW 8 ad)) 5 D 8 ad (cellR cI ad) w 56 [(0, .ref (ad 0)), (1, .int x1), (2, .int x2), (3, .int x3)] [] := by
  unfold m_X8_learns_j56 at hf
  refine j_iconst X (v := (nI 1)) (by decide) dX8_learns_56 ?_
  refine j_istore (lv' := [(0, .ref (ad 0)), (1, .int x1), (2, .int x2), (3, .int x3), (4, .int (nI 1))]) X dX8_learns_57 (by decide) rfl ?_
  refine t_X8_learns_L59 X Y _ _ _ hf
set_option maxRecDepth 100000 in
set_option maxHeartbeats 4000000 in
theorem c_X8_learns (hI : Inj 8 ad) {x1 : Int32} {x2 : Int32} {x3 : Int32} {w : Wd} {out : Wd} (hf : m_X8_learns x1 x2 x3 w = some out) : Met l yX8_learns wsX8_learns rmX8_learns (va_Pc [.ref (ad 0), .int x1, .int x2, .int x3] (PW D (tR cI) 8 ad (cellR cI ad) w)) (QWv D 8 ad (cellR cI ad) out) 0 0 (AW 8 ad) := by
  refine mk_met (maxL := 5) (ret := none) RX8 hI (by decide) rfl rfl (Nat.le_of_ble_eq_true rfl) rfl rfl (fun p e s m args below meth c X Y => ?_)
  unfold m_X8_learns at hf
  refine j_aload_n X 0 dX8_learns_0 rfl rfl ?_
  refine j_get (ref := "ProxyVersionsModel") (index := 7) (v := .ref (ad 1)) X oMo inX8_learns_X8 rfl 0 (by decide) (List.mem_of_getElem? (i := 1) rfl) rfl rfl dX8_learns_1 ?_
  refine j_sipush X (v := (nI 407)) (by decide) dX8_learns_4 ?_
  refine j_iconst X (v := (nI 4)) (by decide) dX8_learns_7 ?_
  refine j_iload_n X 1 dX8_learns_8 rfl rfl ?_
  refine j_imul X dX8_learns_9 ?_
  refine j_iadd X dX8_learns_10 ?_
  refine j_iload_n X 2 dX8_learns_11 rfl rfl ?_
  refine j_bipush X (v := (nI 100)) (by decide) dX8_learns_12 ?_
  refine j_idiv X (by decide) dX8_learns_14 ?_
  refine j_iadd X dX8_learns_15 ?_
  refine j_dup2 X rfl rfl dX8_learns_16 ?_
  obtain ⟨hi1, hf⟩ := f_c hf
  refine j_iald X 0 rfl r1 hi1 dX8_learns_17 ?_
  refine j_iconst X (v := (nI 1)) (by decide) dX8_learns_18 ?_
  refine j_iload_n X 2 dX8_learns_19 rfl rfl ?_
  refine j_bipush X (v := (nI 100)) (by decide) dX8_learns_20 ?_
  refine j_irem X (by decide) dX8_learns_22 ?_
  refine j_ishl X dX8_learns_23 ?_
  refine j_ior X dX8_learns_24 ?_
  obtain ⟨hi2, hf⟩ := f_c hf
  obtain ⟨w3, ew3, hf⟩ := f_lt hf
  refine j_iast X 0 rfl r1 hi2 dX8_learns_25 ew3 ?_
  refine j_aload_n X 0 dX8_learns_26 rfl rfl ?_
  refine j_iload_n X 1 dX8_learns_27 rfl rfl ?_
  refine j_iload_n X 2 dX8_learns_28 rfl rfl ?_
  obtain ⟨o4, ho4, hf⟩ := f_bd hf
  refine j_callVv X oMo rfl rfl [.int x1, .int x2] (c_X8_keeps X.2.2.2.2.2.2.2 ho4) (cwV 2 X.2.2.2.2.1 gX8_learns_X8_keeps rfl rfl rfl (by decide +kernel) ⟨Nat.le_of_ble_eq_true rfl, Nat.le_of_ble_eq_true rfl⟩) rfl rfl (Nat.le_of_ble_eq_true rfl) dX8_learns_29 ?_
  refine j_iload_n X 1 dX8_learns_32 rfl rfl ?_
  refine j_if_le (tgt := 56) X dX8_learns_33 (by decide) (fun c => ?_) (fun c => ?_)
  · replace hf := f_t c hf
    exact t_X8_learns_j56 X Y hf
  replace hf := f_f c hf
  refine j_iload_n X 3 dX8_learns_36 rfl rfl ?_
  refine j_aload_n X 0 dX8_learns_37 rfl rfl ?_
  refine j_get (ref := "ProxyVersionsModel") (index := 7) (v := .ref (ad 1)) X oMo inX8_learns_X8 rfl 0 (by decide) (List.mem_of_getElem? (i := 1) rfl) rfl rfl dX8_learns_38 ?_
  refine j_bipush X (v := (nI 7)) (by decide) dX8_learns_41 ?_
  refine j_iload_n X 1 dX8_learns_43 rfl rfl ?_
  refine j_iadd X dX8_learns_44 ?_
  obtain ⟨hi5, hf⟩ := f_c hf
  refine j_iald X 0 rfl r1 hi5 dX8_learns_45 ?_
  refine j_icmp_eq (tgt := 56) X dX8_learns_46 (by decide) (fun c => ?_) (fun c => ?_)
  · replace hf := f_t c hf
    exact t_X8_learns_j56 X Y hf
  replace hf := f_f c hf
  refine j_aload_n X 0 dX8_learns_49 rfl rfl ?_
  refine j_iload_n X 1 dX8_learns_50 rfl rfl ?_
  refine j_iconst X (v := (nI 0)) (by decide) dX8_learns_51 ?_
  refine j_iload_n X 2 dX8_learns_52 rfl rfl ?_
  obtain ⟨o6, ho6, hf⟩ := f_bd hf
  refine j_callVv X oMo rfl rfl [.int x1, .int (nI 0), .int x2] (c_X8_puts X.2.2.2.2.2.2.2 ho6) (cwV 3 X.2.2.2.2.1 gX8_learns_X8_puts rfl rfl rfl (by decide +kernel) ⟨Nat.le_of_ble_eq_true rfl, Nat.le_of_ble_eq_true rfl⟩) rfl rfl (Nat.le_of_ble_eq_true rfl) dX8_learns_53 ?_
  exact t_X8_learns_j56 X Y hf
abbrev rmX8_arrives : Room := { frames := 5, cells := 0, slots := 0, locals := 120 }
theorem inX8_arrives_X8 : ∀ w ∈ wsX80, w ∈ wsX8_arrives := fun _ h => List.mem_cons_of_mem _ (List.mem_append_right _ h)
set_option maxRecDepth 100000 in
set_option maxHeartbeats 4000000 in
theorem t_X8_arrives_j88 (X : CX p rmX8_arrives s m args c cX8_arrives 8 RX8 wsX8_arrives D (tR cI) 8 ad) (Y : RX meth (some .int)) {x1 : Int32} {x2 : Int32} {x3 : Int32} {x4 : Int32} {x6 : Int32} {s0 : Int32} {w : Wd} {out : Int32 × Wd} (hf : m_X8_arrives_j88 x1 x2 x3 x4 x6 s0 w = some out) : WJ p l e rmX8_arrives s m args below meth c (MQ below (QWi D 8 ad (cellR cI ad) out.1 out.2) args s 0 0 (AW 8 ad)) 8 D 8 ad (cellR cI ad) w 88 [(0, .ref (ad 0)), (1, .int x1), (2, .int x2), (3, .int x3), (4, .int x4), (6, .int x6)] [.int s0] := by
  unfold m_X8_arrives_j88 at hf
  refine j_istore (lv' := [(0, .ref (ad 0)), (1, .int x1), (2, .int x2), (3, .int x3), (4, .int x4), (6, .int x6), (7, .int s0)]) X dX8_arrives_88 (by decide) rfl ?_
  refine j_aload_n X 0 dX8_arrives_90 rfl rfl ?_
  refine j_get (ref := "ProxyVersionsModel") (index := 7) (v := .ref (ad 1)) X oMo inX8_arrives_X8 rfl 0 (by decide) (List.mem_of_getElem? (i := 1) rfl) rfl rfl dX8_arrives_91 ?_
  refine j_sipush X (v := (nI 407)) (by decide) dX8_arrives_94 ?_
  refine j_iconst X (v := (nI 4)) (by decide) dX8_arrives_97 ?_
  refine j_iload_n X 1 dX8_arrives_98 rfl rfl ?_
  refine j_imul X dX8_arrives_99 ?_
  refine j_iadd X dX8_arrives_100 ?_
  refine j_iload X 4 dX8_arrives_101 rfl ?_
  refine j_iadd X dX8_arrives_103 ?_
  refine j_iload X 5 dX8_arrives_104 rfl ?_
  obtain ⟨hi1, hf⟩ := f_c hf
  obtain ⟨w2, ew2, hf⟩ := f_lt hf
  refine j_iast X 0 rfl r1 hi1 dX8_arrives_106 ew2 ?_
  refine j_iload X 6 dX8_arrives_107 rfl ?_
  refine j_if_eq (tgt := 124) X dX8_arrives_109 (by decide) (fun c => ?_) (fun c => ?_)
  · replace hf := f_t c hf
    refine j_aload_n X 0 dX8_arrives_124 rfl rfl ?_
    refine j_iload_n X 1 dX8_arrives_125 rfl rfl ?_
    refine j_iload_n X 2 dX8_arrives_126 rfl rfl ?_
    refine j_iload_n X 3 dX8_arrives_127 rfl rfl ?_
    obtain ⟨o3, ho3, hf⟩ := f_bd hf
    refine j_callVv X oMo rfl rfl [.int x1, .int x2, .int x3] (c_X8_learns X.2.2.2.2.2.2.2 ho3) (cwV 3 X.2.2.2.2.1 gX8_arrives_X8_learns rfl rfl rfl (by decide +kernel) ⟨Nat.le_of_ble_eq_true rfl, Nat.le_of_ble_eq_true rfl⟩) rfl rfl (Nat.le_of_ble_eq_true rfl) dX8_arrives_128 ?_
    refine j_iconst X (v := (nI 1)) (by decide) dX8_arrives_131 ?_
    exact j_iret X Y (f_p1 hf) (f_p2 hf) dX8_arrives_132
  replace hf := f_f c hf
  refine j_aload_n X 0 dX8_arrives_112 rfl rfl ?_
  refine j_get (ref := "ProxyVersionsModel") (index := 7) (v := .ref (ad 1)) X oMo inX8_arrives_X8 rfl 0 (by decide) (List.mem_of_getElem? (i := 1) rfl) rfl rfl dX8_arrives_113 ?_
  refine j_iconst X (v := (nI 3)) (by decide) dX8_arrives_116 ?_
  refine j_dup2 X rfl rfl dX8_arrives_117 ?_
  obtain ⟨hi4, hf⟩ := f_c hf
  refine j_iald X 0 rfl r1 hi4 dX8_arrives_118 ?_
  refine j_iconst X (v := (nI 1)) (by decide) dX8_arrives_119 ?_
  refine j_iadd X dX8_arrives_120 ?_
  obtain ⟨hi5, hf⟩ := f_c hf
  obtain ⟨w6, ew6, hf⟩ := f_lt hf
  refine j_iast X 0 rfl r1 hi5 dX8_arrives_121 ew6 ?_
  refine j_iconst X (v := (-1 : Int32)) (by decide) dX8_arrives_122 ?_
  exact j_iret X Y (f_p1 hf) (f_p2 hf) dX8_arrives_123
set_option maxRecDepth 100000 in
set_option maxHeartbeats 4000000 in
theorem t_X8_arrives_j87 (X : CX p rmX8_arrives s m args c cX8_arrives 8 RX8 wsX8_arrives D (tR cI) 8 ad) (Y : RX meth (some .int)) {x1 : Int32} {x2 : Int32} {x3 : Int32} {x4 : Int32} {x6 : Int32} {w : Wd} {out : Int32 × Wd} (hf : m_X8_arrives_j87 x1 x2 x3 x4 x6 w = some out) : WJ p l e rmX8_arrives s m args below meth c (MQ below (QWi D 8 ad (cellR cI ad) out.1 out.2) args s 0 0 (AW 8 ad)) 8 D 8 ad (cellR cI ad) w 87 [(0, .ref (ad 0)), (1, .int x1), (2, .int x2), (3, .int x3), (4, .int x4), (6, .int x6)] [] := by
  unfold m_X8_arrives_j87 at hf
  refine j_iconst X (v := (nI 0)) (by decide) dX8_arrives_87 ?_
  exact t_X8_arrives_j88 X Y hf
set_option maxRecDepth 100000 in
set_option maxHeartbeats 4000000 in
theorem c_X8_arrives (hI : Inj 8 ad) {x1 : Int32} {x2 : Int32} {x3 : Int32} {w : Wd} {out : Int32 × Wd} (hf : m_X8_arrives x1 x2 x3 w = some out) : Met l yX8_arrives wsX8_arrives rmX8_arrives (va_Pc [.ref (ad 0), .int x1, .int x2, .int x3] (PW D (tR cI) 8 ad (cellR cI ad) w)) (QWi D 8 ad (cellR cI ad) out.1 out.2) 0 0 (AW 8 ad) := by
  refine mk_met (maxL := 8) (ret := (some .int)) RX8 hI (by decide) rfl rfl (Nat.le_of_ble_eq_true rfl) rfl rfl (fun p e s m args below meth c X Y => ?_)
  unfold m_X8_arrives at hf
  refine j_iload_n X 2 dX8_arrives_0 rfl rfl ?_
  refine j_bipush X (v := (nI 100)) (by decide) dX8_arrives_1 ?_
  refine j_idiv X (by decide) dX8_arrives_3 ?_
  obtain ⟨x4_1, ex4_1, hf⟩ := f_lt hf
  refine j_top ex4_1 ?_
  refine j_istore (lv' := [(0, .ref (ad 0)), (1, .int x1), (2, .int x2), (3, .int x3), (4, .int x4_1)]) X dX8_arrives_4 (by decide) rfl ?_
  refine j_iload_n X 2 dX8_arrives_6 rfl rfl ?_
  refine j_bipush X (v := (nI 100)) (by decide) dX8_arrives_7 ?_
  refine j_irem X (by decide) dX8_arrives_9 ?_
  obtain ⟨x5_2, ex5_2, hf⟩ := f_lt hf
  refine j_top ex5_2 ?_
  refine j_istore (lv' := [(0, .ref (ad 0)), (1, .int x1), (2, .int x2), (3, .int x3), (4, .int x4_1), (5, .int x5_2)]) X dX8_arrives_10 (by decide) rfl ?_
  refine j_aload_n X 0 dX8_arrives_12 rfl rfl ?_
  refine j_iload_n X 1 dX8_arrives_13 rfl rfl ?_
  refine j_iload X 4 dX8_arrives_14 rfl ?_
  refine j_iload X 5 dX8_arrives_16 rfl ?_
  obtain ⟨o3, ho3, hf⟩ := f_bd hf
  refine j_callVi X oMo rfl rfl [.int x1, .int x4_1, .int x5_2] (c_X8_knows X.2.2.2.2.2.2.2 ho3) (cwV 3 X.2.2.2.2.1 gX8_arrives_X8_knows rfl rfl rfl (by decide +kernel) ⟨Nat.le_of_ble_eq_true rfl, Nat.le_of_ble_eq_true rfl⟩) rfl rfl (Nat.le_of_ble_eq_true rfl) dX8_arrives_18 ?_
  refine j_if_eq (tgt := 26) X dX8_arrives_21 (by decide) (fun c => ?_) (fun c => ?_)
  · replace hf := f_t c hf
    refine j_aload_n X 0 dX8_arrives_26 rfl rfl ?_
    refine j_get (ref := "ProxyVersionsModel") (index := 7) (v := .ref (ad 1)) X oMo inX8_arrives_X8 rfl 0 (by decide) (List.mem_of_getElem? (i := 1) rfl) rfl rfl dX8_arrives_27 ?_
    refine j_sipush X (v := (nI 407)) (by decide) dX8_arrives_30 ?_
    refine j_iconst X (v := (nI 4)) (by decide) dX8_arrives_33 ?_
    refine j_iload_n X 1 dX8_arrives_34 rfl rfl ?_
    refine j_imul X dX8_arrives_35 ?_
    refine j_iadd X dX8_arrives_36 ?_
    refine j_iload X 4 dX8_arrives_37 rfl ?_
    refine j_iadd X dX8_arrives_39 ?_
    obtain ⟨hi4, hf⟩ := f_c hf
    refine j_iald X 0 rfl r1 hi4 dX8_arrives_40 ?_
    obtain ⟨x6_5, ex6_5, hf⟩ := f_lt hf
    refine j_top ex6_5 ?_
    refine j_istore (lv' := [(0, .ref (ad 0)), (1, .int x1), (2, .int x2), (3, .int x3), (4, .int x4_1), (5, .int x5_2), (6, .int x6_5)]) X dX8_arrives_41 (by decide) rfl ?_
    refine j_aload_n X 0 dX8_arrives_43 rfl rfl ?_
    refine j_get (ref := "ProxyVersionsModel") (index := 7) (v := .ref (ad 1)) X oMo inX8_arrives_X8 rfl 0 (by decide) (List.mem_of_getElem? (i := 1) rfl) rfl rfl dX8_arrives_44 ?_
    refine j_sipush X (v := (nI 407)) (by decide) dX8_arrives_47 ?_
    refine j_iconst X (v := (nI 4)) (by decide) dX8_arrives_50 ?_
    refine j_iload_n X 1 dX8_arrives_51 rfl rfl ?_
    refine j_imul X dX8_arrives_52 ?_
    refine j_iadd X dX8_arrives_53 ?_
    refine j_iload X 4 dX8_arrives_54 rfl ?_
    refine j_iadd X dX8_arrives_56 ?_
    refine j_dup2 X rfl rfl dX8_arrives_57 ?_
    obtain ⟨hi6, hf⟩ := f_c hf
    refine j_iald X 0 rfl r1 hi6 dX8_arrives_58 ?_
    refine j_iconst X (v := (nI 1)) (by decide) dX8_arrives_59 ?_
    refine j_iload X 5 dX8_arrives_60 rfl ?_
    refine j_ishl X dX8_arrives_62 ?_
    refine j_ior X dX8_arrives_63 ?_
    obtain ⟨hi7, hf⟩ := f_c hf
    obtain ⟨w8, ew8, hf⟩ := f_lt hf
    refine j_iast X 0 rfl r1 hi7 dX8_arrives_64 ew8 ?_
    refine j_iload_n X 1 dX8_arrives_65 rfl rfl ?_
    refine j_if_le (tgt := 87) X dX8_arrives_66 (by decide) (fun c => ?_) (fun c => ?_)
    · replace hf := f_t c hf
      refine j_sub [0, 1, 2, 3, 4, 6] rfl ?_
      exact t_X8_arrives_j87 X Y hf
    replace hf := f_f c hf
    refine j_aload_n X 0 dX8_arrives_69 rfl rfl ?_
    refine j_iload_n X 1 dX8_arrives_70 rfl rfl ?_
    obtain ⟨o9, ho9, hf⟩ := f_bd hf
    refine j_callVi X oMo rfl rfl [.int x1] (c_X8_allRanges X.2.2.2.2.2.2.2 ho9) (cwV 1 X.2.2.2.2.1 gX8_arrives_X8_allRanges rfl rfl rfl (by decide +kernel) ⟨Nat.le_of_ble_eq_true rfl, Nat.le_of_ble_eq_true rfl⟩) rfl rfl (Nat.le_of_ble_eq_true rfl) dX8_arrives_71 ?_
    refine j_aload_n X 0 dX8_arrives_74 rfl rfl ?_
    refine j_get (ref := "ProxyVersionsModel") (index := 7) (v := .ref (ad 1)) X oMo inX8_arrives_X8 rfl 0 (by decide) (List.mem_of_getElem? (i := 1) rfl) rfl rfl dX8_arrives_75 ?_
    refine j_iconst X (v := (nI 1)) (by decide) dX8_arrives_78 ?_
    obtain ⟨hi10, hf⟩ := f_c hf
    refine j_iald X 0 rfl r1 hi10 dX8_arrives_79 ?_
    refine j_icmp_le (tgt := 87) X dX8_arrives_80 (by decide) (fun c => ?_) (fun c => ?_)
    · replace hf := f_t c hf
      refine j_sub [0, 1, 2, 3, 4, 6] rfl ?_
      exact t_X8_arrives_j87 X Y hf
    replace hf := f_f c hf
    refine j_iconst X (v := (nI 1)) (by decide) dX8_arrives_83 ?_
    refine j_goto (tgt := 88) X dX8_arrives_84 (by decide) ?_
    refine j_sub [0, 1, 2, 3, 4, 6] rfl ?_
    exact t_X8_arrives_j88 X Y hf
  replace hf := f_f c hf
  refine j_iconst X (v := (nI 0)) (by decide) dX8_arrives_24 ?_
  exact j_iret X Y (f_p1 hf) (f_p2 hf) dX8_arrives_25
abbrev rmX8_takes : Room := { frames := 1, cells := 0, slots := 0, locals := 21 }
theorem inX8_takes_X8 : ∀ w ∈ wsX80, w ∈ wsX8_takes := fun _ h => List.mem_cons_of_mem _ (List.mem_append_right _ h)
set_option maxRecDepth 100000 in
set_option maxHeartbeats 4000000 in
theorem t_X8_takes_L29 (X : CX p rmX8_takes s m args c cX8_takes 6 RX8 wsX8_takes D (tR cI) 8 ad) (Y : RX meth (some .int)) {x3 : Int32} {x4 : Int32} {out : Int32 × Wd} : ∀ (n : Nat) (x5 : Int32) (w : Wd), m_X8_takes_L29 x3 x4 n x5 w = some out → WJ p l e rmX8_takes s m args below meth c (MQ below (QWi D 8 ad (cellR cI ad) out.1 out.2) args s 0 0 (AW 8 ad)) 6 D 8 ad (cellR cI ad) w 29 [(0, .ref (ad 0)), (3, .int x3), (4, .int x4), (5, .int x5)] [] := by
  intro n
  induction n with
  | zero => intro x5 w hf; exact f_n hf
  | succ n ih =>
    intro x5 w hf
    rw [m_X8_takes_L29] at hf
    refine j_iload X 3 dX8_takes_29 rfl ?_
    refine j_aload_n X 0 dX8_takes_31 rfl rfl ?_
    refine j_get (ref := "ProxyVersionsModel") (index := 7) (v := .ref (ad 1)) X oMo inX8_takes_X8 rfl 0 (by decide) (List.mem_of_getElem? (i := 1) rfl) rfl rfl dX8_takes_32 ?_
    refine j_iload_n X 1 dX8_takes_35 rfl rfl ?_
    obtain ⟨hi1, hf⟩ := f_c hf
    refine j_iald X 0 rfl r1 hi1 dX8_takes_36 ?_
    refine j_icmp_gt (tgt := 66) X dX8_takes_37 (by decide) (fun c => ?_) (fun c => ?_)
    · replace hf := f_t c hf
      refine j_iload X 2 dX8_takes_66 rfl ?_
      exact j_iret X Y (f_p1 hf) (f_p2 hf) dX8_takes_68
    replace hf := f_f c hf
    refine j_aload_n X 0 dX8_takes_40 rfl rfl ?_
    refine j_get (ref := "ProxyVersionsModel") (index := 7) (v := .ref (ad 1)) X oMo inX8_takes_X8 rfl 0 (by decide) (List.mem_of_getElem? (i := 1) rfl) rfl rfl dX8_takes_41 ?_
    refine j_iload_n X 1 dX8_takes_44 rfl rfl ?_
    refine j_iload X 3 dX8_takes_45 rfl ?_
    refine j_iadd X dX8_takes_47 ?_
    refine j_aload_n X 0 dX8_takes_48 rfl rfl ?_
    refine j_get (ref := "ProxyVersionsModel") (index := 7) (v := .ref (ad 1)) X oMo inX8_takes_X8 rfl 0 (by decide) (List.mem_of_getElem? (i := 1) rfl) rfl rfl dX8_takes_49 ?_
    refine j_iload_n X 1 dX8_takes_52 rfl rfl ?_
    refine j_iload X 3 dX8_takes_53 rfl ?_
    refine j_iadd X dX8_takes_55 ?_
    refine j_iconst X (v := (nI 1)) (by decide) dX8_takes_56 ?_
    refine j_iadd X dX8_takes_57 ?_
    obtain ⟨hi2, hf⟩ := f_c hf
    refine j_iald X 0 rfl r1 hi2 dX8_takes_58 ?_
    obtain ⟨hi3, hf⟩ := f_c hf
    obtain ⟨w4, ew4, hf⟩ := f_lt hf
    refine j_iast X 0 rfl r1 hi3 dX8_takes_59 ew4 ?_
    refine j_iinc (v := (x5 + (nI 1))) (lv' := [(0, .ref (ad 0)), (3, .int x3), (4, .int x4), (5, .int (x5 + (nI 1)))]) X 3 dX8_takes_60 rfl rfl (by decide) rfl ?_
    refine j_goto (tgt := 29) X dX8_takes_63 (by decide) ?_
    exact ih _ _ hf
set_option maxRecDepth 100000 in
set_option maxHeartbeats 4000000 in
theorem c_X8_takes (hI : Inj 8 ad) {x1 : Int32} {x2 : Int32} {w : Wd} {out : Int32 × Wd} (hf : m_X8_takes x1 x2 w = some out) : Met l yX8_takes wsX8_takes rmX8_takes (va_Pc [.ref (ad 0), .int x1, .int x2] (PW D (tR cI) 8 ad (cellR cI ad) w)) (QWi D 8 ad (cellR cI ad) out.1 out.2) 0 0 (AW 8 ad) := by
  refine mk_met (maxL := 6) (ret := (some .int)) RX8 hI (by decide) rfl rfl (Nat.le_of_ble_eq_true rfl) rfl rfl (fun p e s m args below meth c X Y => ?_)
  unfold m_X8_takes at hf
  refine j_iload_n X 1 dX8_takes_0 rfl rfl ?_
  refine j_iload_n X 2 dX8_takes_1 rfl rfl ?_
  obtain ⟨o1, ho1, hf⟩ := f_bd hf
  refine j_callSi X [.int x1, .int x2] (c_X8_queueOf X.2.2.2.2.2.2.2 ho1) (va_cwS 2 X.2.2.2.2.1 gX8_takes_X8_queueOf rfl rfl rfl (by decide +kernel) ⟨Nat.le_of_ble_eq_true rfl, Nat.le_of_ble_eq_true rfl⟩) rfl rfl (Nat.le_of_ble_eq_true rfl) dX8_takes_2 ?_
  refine j_istore_n (lv' := [(0, .ref (ad 0)), (1, .int x1), (2, .int x2), (3, .int o1)]) X dX8_takes_5 rfl (by decide) rfl ?_
  refine j_aload_n X 0 dX8_takes_6 rfl rfl ?_
  refine j_get (ref := "ProxyVersionsModel") (index := 7) (v := .ref (ad 1)) X oMo inX8_takes_X8 rfl 0 (by decide) (List.mem_of_getElem? (i := 1) rfl) rfl rfl dX8_takes_7 ?_
  refine j_iload_n X 3 dX8_takes_10 rfl rfl ?_
  refine j_iconst X (v := (nI 1)) (by decide) dX8_takes_11 ?_
  refine j_iadd X dX8_takes_12 ?_
  obtain ⟨hi2, hf⟩ := f_c hf
  refine j_iald X 0 rfl r1 hi2 dX8_takes_13 ?_
  obtain ⟨x4_3, ex4_3, hf⟩ := f_lt hf
  refine j_top ex4_3 ?_
  refine j_istore (lv' := [(0, .ref (ad 0)), (1, .int x1), (2, .int x2), (3, .int o1), (4, .int x4_3)]) X dX8_takes_14 (by decide) rfl ?_
  refine j_aload_n X 0 dX8_takes_16 rfl rfl ?_
  refine j_get (ref := "ProxyVersionsModel") (index := 7) (v := .ref (ad 1)) X oMo inX8_takes_X8 rfl 0 (by decide) (List.mem_of_getElem? (i := 1) rfl) rfl rfl dX8_takes_17 ?_
  refine j_iload_n X 3 dX8_takes_20 rfl rfl ?_
  refine j_dup2 X rfl rfl dX8_takes_21 ?_
  obtain ⟨hi4, hf⟩ := f_c hf
  refine j_iald X 0 rfl r1 hi4 dX8_takes_22 ?_
  refine j_iconst X (v := (nI 1)) (by decide) dX8_takes_23 ?_
  refine j_isub X dX8_takes_24 ?_
  obtain ⟨hi5, hf⟩ := f_c hf
  obtain ⟨w6, ew6, hf⟩ := f_lt hf
  refine j_iast X 0 rfl r1 hi5 dX8_takes_25 ew6 ?_
  refine j_iconst X (v := (nI 1)) (by decide) dX8_takes_26 ?_
  refine j_istore (lv' := [(0, .ref (ad 0)), (1, .int x1), (2, .int x2), (3, .int o1), (4, .int x4_3), (5, .int (nI 1))]) X dX8_takes_27 (by decide) rfl ?_
  refine j_sub [0, 3, 4, 5] rfl ?_
  refine t_X8_takes_L29 X Y _ _ _ hf
abbrev rmX8_makes : Room := { frames := 5, cells := 0, slots := 0, locals := 120 }
theorem inX8_makes_X8 : ∀ w ∈ wsX80, w ∈ wsX8_makes := fun _ h => List.mem_cons_of_mem _ (List.mem_append_right _ h)
set_option maxRecDepth 100000 in
set_option maxHeartbeats 4000000 in
theorem t_X8_makes_j101 (X : CX p rmX8_makes s m args c cX8_makes 5 RX8 wsX8_makes D (tR cI) 8 ad) (Y : RX meth (some .int)) {x1 : Int32} {x2 : Int32} {x3 : Int32} {x4 : Int32} {s1 : Int32} {s2 : Int32} {w : Wd} {kc : Int32 → Wd → Option (Int32 × Wd)} {kx108 : Wd → Option (Int32 × Wd)} {out : Int32 × Wd} (hf : m_X8_makes_j101 x1 x2 x3 x4 s1 s2 w kc kx108 = some out) (hk_kc : ∀ (y4 : Int32) (v : Wd), kc y4 v = some out → WJ p l e rmX8_makes s m args below meth c (MQ below (QWi D 8 ad (cellR cI ad) out.1 out.2) args s 0 0 (AW 8 ad)) 5 D 8 ad (cellR cI ad) v 56 [(0, .ref (ad 0)), (1, .int x1), (2, .int x2), (3, .int x3), (4, .int y4)] []) (hk_kx108 : ∀  (v : Wd), kx108 v = some out → WJ p l e rmX8_makes s m args below meth c (MQ below (QWi D 8 ad (cellR cI ad) out.1 out.2) args s 0 0 (AW 8 ad)) 5 D 8 ad (cellR cI ad) v 108 [(0, .ref (ad 0)), (1, .int x1), (2, .int x2), (3, .int x3)] []) : WJ p l e rmX8_makes s m args below meth c (MQ below (QWi D 8 ad (cellR cI ad) out.1 out.2) args s 0 0 (AW 8 ad)) 5 D 8 ad (cellR cI ad) w 101 [(0, .ref (ad 0)), (1, .int x1), (2, .int x2), (3, .int x3), (4, .int x4)] [.int s2, .int s1, .ref (ad 1)] := by
  unfold m_X8_makes_j101 at hf
  obtain ⟨hi1, hf⟩ := f_c hf
  obtain ⟨w2, ew2, hf⟩ := f_lt hf
  refine j_iast X 0 rfl r1 hi1 dX8_makes_101 ew2 ?_
  refine j_iinc (v := (x4 + (nI 1))) (lv' := [(0, .ref (ad 0)), (1, .int x1), (2, .int x2), (3, .int x3), (4, .int (x4 + (nI 1)))]) X 4 dX8_makes_102 rfl rfl (by decide) rfl ?_
  refine j_goto (tgt := 56) X dX8_makes_105 (by decide) ?_
  exact hk_kc _ _ hf
set_option maxRecDepth 100000 in
set_option maxHeartbeats 4000000 in
theorem t_X8_makes_L56 (X : CX p rmX8_makes s m args c cX8_makes 5 RX8 wsX8_makes D (tR cI) 8 ad) (Y : RX meth (some .int)) {x1 : Int32} {x2 : Int32} {x3 : Int32} {kx108 : Wd → Option (Int32 × Wd)} {out : Int32 × Wd} (hk_kx108 : ∀  (v : Wd), kx108 v = some out → WJ p l e rmX8_makes s m args below meth c (MQ below (QWi D 8 ad (cellR cI ad) out.1 out.2) args s 0 0 (AW 8 ad)) 5 D 8 ad (cellR cI ad) v 108 [(0, .ref (ad 0)), (1, .int x1), (2, .int x2), (3, .int x3)] []) : ∀ (n : Nat) (x4 : Int32) (w : Wd), m_X8_makes_L56 x1 x2 x3 kx108 n x4 w = some out → WJ p l e rmX8_makes s m args below meth c (MQ below (QWi D 8 ad (cellR cI ad) out.1 out.2) args s 0 0 (AW 8 ad)) 5 D 8 ad (cellR cI ad) w 56 [(0, .ref (ad 0)), (1, .int x1), (2, .int x2), (3, .int x3), (4, .int x4)] [] := by
  intro n
  induction n with
  | zero => intro x4 w hf; exact f_n hf
  | succ n ih =>
    intro x4 w hf
    rw [m_X8_makes_L56] at hf
    refine j_iload X 4 dX8_makes_56 rfl ?_
    refine j_iconst X (v := (nI 4)) (by decide) dX8_makes_58 ?_
    refine j_icmp_ge (tgt := 108) X dX8_makes_59 (by decide) (fun c => ?_) (fun c => ?_)
    · replace hf := f_t c hf
      refine j_sub [0, 1, 2, 3] rfl ?_
      exact hk_kx108 _ hf
    replace hf := f_f c hf
    refine j_aload_n X 0 dX8_makes_62 rfl rfl ?_
    refine j_get (ref := "ProxyVersionsModel") (index := 7) (v := .ref (ad 1)) X oMo inX8_makes_X8 rfl 0 (by decide) (List.mem_of_getElem? (i := 1) rfl) rfl rfl dX8_makes_63 ?_
    refine j_bipush X (v := (nI 23)) (by decide) dX8_makes_66 ?_
    refine j_bipush X (v := (nI 96)) (by decide) dX8_makes_68 ?_
    refine j_iload_n X 1 dX8_makes_70 rfl rfl ?_
    refine j_imul X dX8_makes_71 ?_
    refine j_iadd X dX8_makes_72 ?_
    refine j_iconst X (v := (nI 4)) (by decide) dX8_makes_73 ?_
    refine j_iload_n X 3 dX8_makes_74 rfl rfl ?_
    refine j_iconst X (v := (nI 1)) (by decide) dX8_makes_75 ?_
    refine j_isub X dX8_makes_76 ?_
    refine j_imul X dX8_makes_77 ?_
    refine j_iadd X dX8_makes_78 ?_
    refine j_iload X 4 dX8_makes_79 rfl ?_
    refine j_iadd X dX8_makes_81 ?_
    refine j_iload X 4 dX8_makes_82 rfl ?_
    refine j_iload_n X 1 dX8_makes_84 rfl rfl ?_
    refine j_icmp_ne (tgt := 94) X dX8_makes_85 (by decide) (fun c => ?_) (fun c => ?_)
    · replace hf := f_t c hf
      refine j_aload_n X 0 dX8_makes_94 rfl rfl ?_
      refine j_get (ref := "ProxyVersionsModel") (index := 22) (v := .ref (ad 5)) X oMo inX8_makes_X8 rfl 6 (by decide) (List.mem_of_getElem? (i := 2) rfl) rfl rfl dX8_makes_95 ?_
      refine j_iload X 4 dX8_makes_98 rfl ?_
      obtain ⟨hi1, hf⟩ := f_c hf
      refine j_iald X 0 rfl r5 hi1 dX8_makes_100 ?_
      exact t_X8_makes_j101 X Y hf ih hk_kx108
    replace hf := f_fn c hf
    refine j_iload_n X 3 dX8_makes_88 rfl rfl ?_
    refine j_iconst X (v := (nI 1)) (by decide) dX8_makes_89 ?_
    refine j_isub X dX8_makes_90 ?_
    refine j_goto (tgt := 101) X dX8_makes_91 (by decide) ?_
    exact t_X8_makes_j101 X Y hf ih hk_kx108
set_option maxRecDepth 100000 in
set_option maxHeartbeats 4000000 in
theorem c_X8_makes (hI : Inj 8 ad) {x1 : Int32} {w : Wd} {out : Int32 × Wd} (hf : m_X8_makes x1 w = some out) : Met l yX8_makes wsX8_makes rmX8_makes (va_Pc [.ref (ad 0), .int x1] (PW D (tR cI) 8 ad (cellR cI ad) w)) (QWi D 8 ad (cellR cI ad) out.1 out.2) 0 0 (AW 8 ad) := by
  refine mk_met (maxL := 5) (ret := (some .int)) RX8 hI (by decide) rfl rfl (Nat.le_of_ble_eq_true rfl) rfl rfl (fun p e s m args below meth c X Y => ?_)
  unfold m_X8_makes at hf
  refine j_iload_n X 1 dX8_makes_0 rfl rfl ?_
  obtain ⟨o1, ho1, hf⟩ := f_bd hf
  refine j_callSi X [.int x1] (c_X8_isOrigin X.2.2.2.2.2.2.2 ho1) (va_cwS 1 X.2.2.2.2.1 gX8_makes_X8_isOrigin rfl rfl rfl (by decide +kernel) ⟨Nat.le_of_ble_eq_true rfl, Nat.le_of_ble_eq_true rfl⟩) rfl rfl (Nat.le_of_ble_eq_true rfl) dX8_makes_1 ?_
  refine j_if_ne (tgt := 9) X dX8_makes_4 (by decide) (fun c => ?_) (fun c => ?_)
  · replace hf := f_t c hf
    refine j_aload_n X 0 dX8_makes_9 rfl rfl ?_
    refine j_get (ref := "ProxyVersionsModel") (index := 7) (v := .ref (ad 1)) X oMo inX8_makes_X8 rfl 0 (by decide) (List.mem_of_getElem? (i := 1) rfl) rfl rfl dX8_makes_10 ?_
    refine j_bipush X (v := (nI 19)) (by decide) dX8_makes_13 ?_
    refine j_iload_n X 1 dX8_makes_15 rfl rfl ?_
    refine j_iadd X dX8_makes_16 ?_
    obtain ⟨hi2, hf⟩ := f_c hf
    refine j_iald X 0 rfl r1 hi2 dX8_makes_17 ?_
    refine j_bipush X (v := (nI 24)) (by decide) dX8_makes_18 ?_
    refine j_icmp_ne (tgt := 26) X dX8_makes_20 (by decide) (fun c => ?_) (fun c => ?_)
    · replace hf := f_t c hf
      refine j_aload_n X 0 dX8_makes_26 rfl rfl ?_
      refine j_get (ref := "ProxyVersionsModel") (index := 7) (v := .ref (ad 1)) X oMo inX8_makes_X8 rfl 0 (by decide) (List.mem_of_getElem? (i := 1) rfl) rfl rfl dX8_makes_27 ?_
      refine j_bipush X (v := (nI 15)) (by decide) dX8_makes_30 ?_
      refine j_iload_n X 1 dX8_makes_32 rfl rfl ?_
      refine j_iadd X dX8_makes_33 ?_
      obtain ⟨hi3, hf⟩ := f_c hf
      refine j_iald X 0 rfl r1 hi3 dX8_makes_34 ?_
      obtain ⟨x2_4, ex2_4, hf⟩ := f_lt hf
      refine j_top ex2_4 ?_
      refine j_istore_n (lv' := [(0, .ref (ad 0)), (1, .int x1), (2, .int x2_4)]) X dX8_makes_35 rfl (by decide) rfl ?_
      refine j_aload_n X 0 dX8_makes_36 rfl rfl ?_
      refine j_iload_n X 2 dX8_makes_37 rfl rfl ?_
      obtain ⟨o5, ho5, hf⟩ := f_bd hf
      refine j_callVv X oMo rfl rfl [.int x2_4] (c_X8_serves X.2.2.2.2.2.2.2 ho5) (cwV 1 X.2.2.2.2.1 gX8_makes_X8_serves rfl rfl rfl (by decide +kernel) ⟨Nat.le_of_ble_eq_true rfl, Nat.le_of_ble_eq_true rfl⟩) rfl rfl (Nat.le_of_ble_eq_true rfl) dX8_makes_38 ?_
      refine j_aload_n X 0 dX8_makes_41 rfl rfl ?_
      refine j_get (ref := "ProxyVersionsModel") (index := 7) (v := .ref (ad 1)) X oMo inX8_makes_X8 rfl 0 (by decide) (List.mem_of_getElem? (i := 1) rfl) rfl rfl dX8_makes_42 ?_
      refine j_bipush X (v := (nI 19)) (by decide) dX8_makes_45 ?_
      refine j_iload_n X 1 dX8_makes_47 rfl rfl ?_
      refine j_iadd X dX8_makes_48 ?_
      obtain ⟨hi6, hf⟩ := f_c hf
      refine j_iald X 0 rfl r1 hi6 dX8_makes_49 ?_
      refine j_iconst X (v := (nI 1)) (by decide) dX8_makes_50 ?_
      refine j_iadd X dX8_makes_51 ?_
      obtain ⟨x3_7, ex3_7, hf⟩ := f_lt hf
      refine j_top ex3_7 ?_
      refine j_istore_n (lv' := [(0, .ref (ad 0)), (1, .int x1), (2, .int x2_4), (3, .int x3_7)]) X dX8_makes_52 rfl (by decide) rfl ?_
      refine j_iconst X (v := (nI 0)) (by decide) dX8_makes_53 ?_
      refine j_istore (lv' := [(0, .ref (ad 0)), (1, .int x1), (2, .int x2_4), (3, .int x3_7), (4, .int (nI 0))]) X dX8_makes_54 (by decide) rfl ?_
      refine t_X8_makes_L56 X Y ?_ _ _ _ hf
      intro w8 hf
      refine j_aload_n X 0 dX8_makes_108 rfl rfl ?_
      refine j_get (ref := "ProxyVersionsModel") (index := 7) (v := .ref (ad 1)) X oMo inX8_makes_X8 rfl 0 (by decide) (List.mem_of_getElem? (i := 1) rfl) rfl rfl dX8_makes_109 ?_
      refine j_bipush X (v := (nI 19)) (by decide) dX8_makes_112 ?_
      refine j_iload_n X 1 dX8_makes_114 rfl rfl ?_
      refine j_iadd X dX8_makes_115 ?_
      refine j_iload_n X 3 dX8_makes_116 rfl rfl ?_
      obtain ⟨hi9, hf⟩ := f_c hf
      obtain ⟨w10, ew10, hf⟩ := f_lt hf
      refine j_iast X 0 rfl r1 hi9 dX8_makes_117 ew10 ?_
      refine j_aload_n X 0 dX8_makes_118 rfl rfl ?_
      refine j_iload_n X 2 dX8_makes_119 rfl rfl ?_
      refine j_bipush X (v := (nI 100)) (by decide) dX8_makes_120 ?_
      refine j_iload_n X 1 dX8_makes_122 rfl rfl ?_
      refine j_imul X dX8_makes_123 ?_
      refine j_iload_n X 3 dX8_makes_124 rfl rfl ?_
      refine j_iadd X dX8_makes_125 ?_
      refine j_bipush X (v := (-9 : Int32)) (by decide) dX8_makes_126 ?_
      obtain ⟨o11, ho11, hf⟩ := f_bd hf
      refine j_callVv X oMo rfl rfl [.int x2_4, .int (((nI 100) * x1) + x3_7), .int (-9 : Int32)] (c_X8_learns X.2.2.2.2.2.2.2 ho11) (cwV 3 X.2.2.2.2.1 gX8_makes_X8_learns rfl rfl rfl (by decide +kernel) ⟨Nat.le_of_ble_eq_true rfl, Nat.le_of_ble_eq_true rfl⟩) rfl rfl (Nat.le_of_ble_eq_true rfl) dX8_makes_128 ?_
      refine j_iload_n X 3 dX8_makes_131 rfl rfl ?_
      exact j_iret X Y (f_p1 hf) (f_p2 hf) dX8_makes_132
    replace hf := f_fn c hf
    refine j_bipush X (v := (-3 : Int32)) (by decide) dX8_makes_23 ?_
    exact j_iret X Y (f_p1 hf) (f_p2 hf) dX8_makes_25
  replace hf := f_fn c hf
  refine j_iconst X (v := (-1 : Int32)) (by decide) dX8_makes_7 ?_
  exact j_iret X Y (f_p1 hf) (f_p2 hf) dX8_makes_8
abbrev rmX8_isQueue : Room := { frames := 2, cells := 0, slots := 0, locals := 43 }
set_option maxRecDepth 100000 in
set_option maxHeartbeats 4000000 in
theorem c_X8_isQueue (hI : Inj 8 ad) {x1 : Int32} {x2 : Int32} {w : Wd} {out : Int32} (hf : m_X8_isQueue x1 x2 w = some out) : Met l yX8_isQueue wsX8_isQueue rmX8_isQueue (va_Pc [.ref (ad 0), .int x1, .int x2] (PW D (tR cI) 8 ad (cellR cI ad) w)) (QWi D 8 ad (cellR cI ad) out w) 0 0 (AW 8 ad) := by
  refine mk_met (maxL := 3) (ret := (some .boolean)) RX8 hI (by decide) rfl rfl (Nat.le_of_ble_eq_true rfl) rfl rfl (fun p e s m args below meth c X Y => ?_)
  unfold m_X8_isQueue at hf
  refine j_aload_n X 0 dX8_isQueue_0 rfl rfl ?_
  refine j_iload_n X 1 dX8_isQueue_1 rfl rfl ?_
  obtain ⟨o1, ho1, hf⟩ := f_bd hf
  refine j_callVi X oMo rfl rfl [.int x1] (c_X8_isChild X.2.2.2.2.2.2.2 ho1) (cwV 1 X.2.2.2.2.1 gX8_isQueue_X8_isChild rfl rfl rfl (by decide +kernel) ⟨Nat.le_of_ble_eq_true rfl, Nat.le_of_ble_eq_true rfl⟩) rfl rfl (Nat.le_of_ble_eq_true rfl) dX8_isQueue_2 ?_
  refine j_if_eq (tgt := 21) X dX8_isQueue_5 (by decide) (fun c => ?_) (fun c => ?_)
  · replace hf := f_t c hf
    refine j_iconst X (v := (nI 0)) (by decide) dX8_isQueue_21 ?_
    exact j_bret X Y (Eq.trans (by decide : (nI 0) &&& 1 = (nI 0)) (f_s hf)) rfl dX8_isQueue_22
  replace hf := f_f c hf
  refine j_iload_n X 2 dX8_isQueue_8 rfl rfl ?_
  refine j_iconst X (v := (nI 0)) (by decide) dX8_isQueue_9 ?_
  refine j_iconst X (v := (nI 1)) (by decide) dX8_isQueue_10 ?_
  obtain ⟨o2, ho2, hf⟩ := f_bd hf
  refine j_callSi X [.int x2, .int (nI 0), .int (nI 1)] (c_X8_in X.2.2.2.2.2.2.2 ho2) (va_cwS 3 X.2.2.2.2.1 gX8_isQueue_X8_in rfl rfl rfl (by decide +kernel) ⟨Nat.le_of_ble_eq_true rfl, Nat.le_of_ble_eq_true rfl⟩) rfl rfl (Nat.le_of_ble_eq_true rfl) dX8_isQueue_11 ?_
  refine j_if_eq (tgt := 21) X dX8_isQueue_14 (by decide) (fun c => ?_) (fun c => ?_)
  · replace hf := f_t c hf
    refine j_iconst X (v := (nI 0)) (by decide) dX8_isQueue_21 ?_
    exact j_bret X Y (Eq.trans (by decide : (nI 0) &&& 1 = (nI 0)) (f_s hf)) rfl dX8_isQueue_22
  replace hf := f_f c hf
  refine j_iconst X (v := (nI 1)) (by decide) dX8_isQueue_17 ?_
  refine j_goto (tgt := 22) X dX8_isQueue_18 (by decide) ?_
  exact j_bret X Y (Eq.trans (by decide : (nI 1) &&& 1 = (nI 1)) (f_s hf)) rfl dX8_isQueue_22
abbrev rmX8_delivers : Room := { frames := 6, cells := 0, slots := 0, locals := 147 }
theorem inX8_delivers_X8 : ∀ w ∈ wsX80, w ∈ wsX8_delivers := fun _ h => List.mem_cons_of_mem _ (List.mem_append_right _ h)
set_option maxRecDepth 100000 in
set_option maxHeartbeats 4000000 in
theorem t_X8_delivers_j119 (X : CX p rmX8_delivers s m args c cX8_delivers 10 RX8 wsX8_delivers D (tR cI) 8 ad) (Y : RX meth (some .int)) {x1 : Int32} {x2 : Int32} {x3 : Int32} {x4 : Int32} {x5 : Int32} {x7 : Int32} {s0 : Int32} {s1 : Int32} {w : Wd} {kc : Int32 → Int32 → Wd → Option (Int32 × Wd)} {out : Int32 × Wd} (hf : m_X8_delivers_j119 x1 x2 x3 x4 x5 x7 s0 s1 w kc = some out) (hk_kc : ∀ (y6 : Int32) (y7 : Int32) (v : Wd), kc y6 y7 v = some out → WJ p l e rmX8_delivers s m args below meth c (MQ below (QWi D 8 ad (cellR cI ad) out.1 out.2) args s 0 0 (AW 8 ad)) 10 D 8 ad (cellR cI ad) v 58 [(0, .ref (ad 0)), (1, .int x1), (2, .int x2), (3, .int x3), (4, .int x4), (5, .int x5), (6, .int y6), (7, .int y7)] []) : WJ p l e rmX8_delivers s m args below meth c (MQ below (QWi D 8 ad (cellR cI ad) out.1 out.2) args s 0 0 (AW 8 ad)) 10 D 8 ad (cellR cI ad) w 119 [(0, .ref (ad 0)), (1, .int x1), (2, .int x2), (3, .int x3), (4, .int x4), (5, .int x5), (7, .int x7)] [.int s1, .int s0] := by
  unfold m_X8_delivers_j119 at hf
  refine j_iadd X dX8_delivers_119 ?_
  obtain ⟨x6_1, ex6_1, hf⟩ := f_lt hf
  refine j_top ex6_1 ?_
  refine j_istore (lv' := [(0, .ref (ad 0)), (1, .int x1), (2, .int x2), (3, .int x3), (4, .int x4), (5, .int x5), (6, .int x6_1), (7, .int x7)]) X dX8_delivers_120 (by decide) rfl ?_
  refine j_iinc (v := (x7 + (nI 1))) (lv' := [(0, .ref (ad 0)), (1, .int x1), (2, .int x2), (3, .int x3), (4, .int x4), (5, .int x5), (6, .int x6_1), (7, .int (x7 + (nI 1)))]) X 7 dX8_delivers_122 rfl rfl (by decide) rfl ?_
  refine j_goto (tgt := 58) X dX8_delivers_125 (by decide) ?_
  exact hk_kc _ _ _ hf
set_option maxRecDepth 100000 in
set_option maxHeartbeats 4000000 in
theorem t_X8_delivers_j104 (X : CX p rmX8_delivers s m args c cX8_delivers 10 RX8 wsX8_delivers D (tR cI) 8 ad) (Y : RX meth (some .int)) {x1 : Int32} {x2 : Int32} {x3 : Int32} {x4 : Int32} {x5 : Int32} {x6 : Int32} {x7 : Int32} {s0 : Int32} {w : Wd} {kc : Int32 → Int32 → Wd → Option (Int32 × Wd)} {out : Int32 × Wd} (hf : m_X8_delivers_j104 x1 x2 x3 x4 x5 x6 x7 s0 w kc = some out) (hk_kc : ∀ (y6 : Int32) (y7 : Int32) (v : Wd), kc y6 y7 v = some out → WJ p l e rmX8_delivers s m args below meth c (MQ below (QWi D 8 ad (cellR cI ad) out.1 out.2) args s 0 0 (AW 8 ad)) 10 D 8 ad (cellR cI ad) v 58 [(0, .ref (ad 0)), (1, .int x1), (2, .int x2), (3, .int x3), (4, .int x4), (5, .int x5), (6, .int y6), (7, .int y7)] []) : WJ p l e rmX8_delivers s m args below meth c (MQ below (QWi D 8 ad (cellR cI ad) out.1 out.2) args s 0 0 (AW 8 ad)) 10 D 8 ad (cellR cI ad) w 104 [(0, .ref (ad 0)), (1, .int x1), (2, .int x2), (3, .int x3), (4, .int x4), (5, .int x5), (6, .int x6), (7, .int x7)] [.int s0] := by
  unfold m_X8_delivers_j104 at hf
  refine j_istore (lv' := [(0, .ref (ad 0)), (1, .int x1), (2, .int x2), (3, .int x3), (4, .int x4), (5, .int x5), (6, .int x6), (7, .int x7), (9, .int s0)]) X dX8_delivers_104 (by decide) rfl ?_
  refine j_iload X 6 dX8_delivers_106 rfl ?_
  refine j_iload X 8 dX8_delivers_108 rfl ?_
  refine j_iconst X (v := (nI 1)) (by decide) dX8_delivers_110 ?_
  refine j_icmp_ne (tgt := 118) X dX8_delivers_111 (by decide) (fun c => ?_) (fun c => ?_)
  · replace hf := f_t c hf
    refine j_iconst X (v := (nI 0)) (by decide) dX8_delivers_118 ?_
    refine j_sub [0, 1, 2, 3, 4, 5, 7] rfl ?_
    exact t_X8_delivers_j119 X Y hf hk_kc
  replace hf := f_fn c hf
  refine j_iconst X (v := (nI 1)) (by decide) dX8_delivers_114 ?_
  refine j_goto (tgt := 119) X dX8_delivers_115 (by decide) ?_
  refine j_sub [0, 1, 2, 3, 4, 5, 7] rfl ?_
  exact t_X8_delivers_j119 X Y hf hk_kc
set_option maxRecDepth 100000 in
set_option maxHeartbeats 4000000 in
theorem t_X8_delivers_L58 (X : CX p rmX8_delivers s m args c cX8_delivers 10 RX8 wsX8_delivers D (tR cI) 8 ad) (Y : RX meth (some .int)) {x1 : Int32} {x2 : Int32} {x3 : Int32} {x4 : Int32} {x5 : Int32} {out : Int32 × Wd} : ∀ (n : Nat) (x6 : Int32) (x7 : Int32) (w : Wd), m_X8_delivers_L58 x1 x2 x3 x4 x5 n x6 x7 w = some out → WJ p l e rmX8_delivers s m args below meth c (MQ below (QWi D 8 ad (cellR cI ad) out.1 out.2) args s 0 0 (AW 8 ad)) 10 D 8 ad (cellR cI ad) w 58 [(0, .ref (ad 0)), (1, .int x1), (2, .int x2), (3, .int x3), (4, .int x4), (5, .int x5), (6, .int x6), (7, .int x7)] [] := by
  intro n
  induction n with
  | zero => intro x6 x7 w hf; exact f_n hf
  | succ n ih =>
    intro x6 x7 w hf
    rw [m_X8_delivers_L58] at hf
    refine j_iload X 7 dX8_delivers_58 rfl ?_
    refine j_iload_n X 3 dX8_delivers_60 rfl rfl ?_
    refine j_icmp_ge (tgt := 128) X dX8_delivers_61 (by decide) (fun c => ?_) (fun c => ?_)
    · replace hf := f_t c hf
      refine j_iload X 6 dX8_delivers_128 rfl ?_
      exact j_iret X Y (f_p1 hf) (f_p2 hf) dX8_delivers_130
    replace hf := f_f c hf
    refine j_iload X 7 dX8_delivers_64 rfl ?_
    refine j_iload X 4 dX8_delivers_66 rfl ?_
    refine j_icmp_ge (tgt := 128) X dX8_delivers_68 (by decide) (fun c => ?_) (fun c => ?_)
    · replace hf := f_t c hf
      refine j_iload X 6 dX8_delivers_128 rfl ?_
      exact j_iret X Y (f_p1 hf) (f_p2 hf) dX8_delivers_130
    replace hf := f_f c hf
    refine j_aload_n X 0 dX8_delivers_71 rfl rfl ?_
    refine j_iload_n X 1 dX8_delivers_72 rfl rfl ?_
    refine j_iload_n X 2 dX8_delivers_73 rfl rfl ?_
    obtain ⟨o1, ho1, hf⟩ := f_bd hf
    refine j_callVi X oMo rfl rfl [.int x1, .int x2] (c_X8_takes X.2.2.2.2.2.2.2 ho1) (cwV 2 X.2.2.2.2.1 gX8_delivers_X8_takes rfl rfl rfl (by decide +kernel) ⟨Nat.le_of_ble_eq_true rfl, Nat.le_of_ble_eq_true rfl⟩) rfl rfl (Nat.le_of_ble_eq_true rfl) dX8_delivers_74 ?_
    refine j_istore (lv' := [(0, .ref (ad 0)), (1, .int x1), (2, .int x2), (3, .int x3), (4, .int x4), (5, .int x5), (6, .int x6), (7, .int x7), (8, .int o1.1)]) X dX8_delivers_77 (by decide) rfl ?_
    refine j_iload_n X 2 dX8_delivers_79 rfl rfl ?_
    refine j_if_ne (tgt := 95) X dX8_delivers_80 (by decide) (fun c => ?_) (fun c => ?_)
    · replace hf := f_t c hf
      refine j_aload_n X 0 dX8_delivers_95 rfl rfl ?_
      refine j_iload_n X 1 dX8_delivers_96 rfl rfl ?_
      refine j_iload X 8 dX8_delivers_97 rfl ?_
      refine j_iload X 5 dX8_delivers_99 rfl ?_
      obtain ⟨o2, ho2, hf⟩ := f_bd hf
      refine j_callVi X oMo rfl rfl [.int x1, .int o1.1, .int x5] (c_X8_arrives X.2.2.2.2.2.2.2 ho2) (cwV 3 X.2.2.2.2.1 gX8_delivers_X8_arrives rfl rfl rfl (by decide +kernel) ⟨Nat.le_of_ble_eq_true rfl, Nat.le_of_ble_eq_true rfl⟩) rfl rfl (Nat.le_of_ble_eq_true rfl) dX8_delivers_101 ?_
      refine j_sub [0, 1, 2, 3, 4, 5, 6, 7] rfl ?_
      exact t_X8_delivers_j104 X Y hf ih
    replace hf := f_fn c hf
    refine j_aload_n X 0 dX8_delivers_83 rfl rfl ?_
    refine j_iload X 5 dX8_delivers_84 rfl ?_
    refine j_iload X 8 dX8_delivers_86 rfl ?_
    refine j_iload_n X 1 dX8_delivers_88 rfl rfl ?_
    obtain ⟨o3, ho3, hf⟩ := f_bd hf
    refine j_callVi X oMo rfl rfl [.int x5, .int o1.1, .int x1] (c_X8_arrives X.2.2.2.2.2.2.2 ho3) (cwV 3 X.2.2.2.2.1 gX8_delivers_X8_arrives rfl rfl rfl (by decide +kernel) ⟨Nat.le_of_ble_eq_true rfl, Nat.le_of_ble_eq_true rfl⟩) rfl rfl (Nat.le_of_ble_eq_true rfl) dX8_delivers_89 ?_
    refine j_goto (tgt := 104) X dX8_delivers_92 (by decide) ?_
    refine j_sub [0, 1, 2, 3, 4, 5, 6, 7] rfl ?_
    exact t_X8_delivers_j104 X Y hf ih
set_option maxRecDepth 100000 in
set_option maxHeartbeats 4000000 in
theorem c_X8_delivers (hI : Inj 8 ad) {x1 : Int32} {x2 : Int32} {x3 : Int32} {w : Wd} {out : Int32 × Wd} (hf : m_X8_delivers x1 x2 x3 w = some out) : Met l yX8_delivers wsX8_delivers rmX8_delivers (va_Pc [.ref (ad 0), .int x1, .int x2, .int x3] (PW D (tR cI) 8 ad (cellR cI ad) w)) (QWi D 8 ad (cellR cI ad) out.1 out.2) 0 0 (AW 8 ad) := by
  refine mk_met (maxL := 10) (ret := (some .int)) RX8 hI (by decide) rfl rfl (Nat.le_of_ble_eq_true rfl) rfl rfl (fun p e s m args below meth c X Y => ?_)
  unfold m_X8_delivers at hf
  refine j_aload_n X 0 dX8_delivers_0 rfl rfl ?_
  refine j_iload_n X 1 dX8_delivers_1 rfl rfl ?_
  refine j_iload_n X 2 dX8_delivers_2 rfl rfl ?_
  obtain ⟨o1, ho1, hf⟩ := f_bd hf
  refine j_callVi X oMo rfl rfl [.int x1, .int x2] (c_X8_isQueue X.2.2.2.2.2.2.2 ho1) (cwV 2 X.2.2.2.2.1 gX8_delivers_X8_isQueue rfl rfl rfl (by decide +kernel) ⟨Nat.le_of_ble_eq_true rfl, Nat.le_of_ble_eq_true rfl⟩) rfl rfl (Nat.le_of_ble_eq_true rfl) dX8_delivers_3 ?_
  refine j_if_eq (tgt := 19) X dX8_delivers_6 (by decide) (fun c => ?_) (fun c => ?_)
  · replace hf := f_t c hf
    refine j_iconst X (v := (-1 : Int32)) (by decide) dX8_delivers_19 ?_
    exact j_iret X Y (f_p1 hf) (f_p2 hf) dX8_delivers_20
  replace hf := f_f c hf
  refine j_iload_n X 3 dX8_delivers_9 rfl rfl ?_
  refine j_iconst X (v := (nI 1)) (by decide) dX8_delivers_10 ?_
  refine j_bipush X (v := (nI 9)) (by decide) dX8_delivers_11 ?_
  obtain ⟨o2, ho2, hf⟩ := f_bd hf
  refine j_callSi X [.int x3, .int (nI 1), .int (nI 9)] (c_X8_in X.2.2.2.2.2.2.2 ho2) (va_cwS 3 X.2.2.2.2.1 gX8_delivers_X8_in rfl rfl rfl (by decide +kernel) ⟨Nat.le_of_ble_eq_true rfl, Nat.le_of_ble_eq_true rfl⟩) rfl rfl (Nat.le_of_ble_eq_true rfl) dX8_delivers_13 ?_
  refine j_if_ne (tgt := 21) X dX8_delivers_16 (by decide) (fun c => ?_) (fun c => ?_)
  · replace hf := f_t c hf
    refine j_aload_n X 0 dX8_delivers_21 rfl rfl ?_
    refine j_get (ref := "ProxyVersionsModel") (index := 7) (v := .ref (ad 1)) X oMo inX8_delivers_X8 rfl 0 (by decide) (List.mem_of_getElem? (i := 1) rfl) rfl rfl dX8_delivers_22 ?_
    refine j_iload_n X 1 dX8_delivers_25 rfl rfl ?_
    refine j_iload_n X 2 dX8_delivers_26 rfl rfl ?_
    obtain ⟨o3, ho3, hf⟩ := f_bd hf
    refine j_callSi X [.int x1, .int x2] (c_X8_queueOf X.2.2.2.2.2.2.2 ho3) (va_cwS 2 X.2.2.2.2.1 gX8_delivers_X8_queueOf rfl rfl rfl (by decide +kernel) ⟨Nat.le_of_ble_eq_true rfl, Nat.le_of_ble_eq_true rfl⟩) rfl rfl (Nat.le_of_ble_eq_true rfl) dX8_delivers_27 ?_
    obtain ⟨hi4, hf⟩ := f_c hf
    refine j_iald X 0 rfl r1 hi4 dX8_delivers_30 ?_
    obtain ⟨x4_5, ex4_5, hf⟩ := f_lt hf
    refine j_top ex4_5 ?_
    refine j_istore (lv' := [(0, .ref (ad 0)), (1, .int x1), (2, .int x2), (3, .int x3), (4, .int x4_5)]) X dX8_delivers_31 (by decide) rfl ?_
    refine j_iload X 4 dX8_delivers_33 rfl ?_
    refine j_if_ne (tgt := 41) X dX8_delivers_35 (by decide) (fun c => ?_) (fun c => ?_)
    · replace hf := f_t c hf
      refine j_aload_n X 0 dX8_delivers_41 rfl rfl ?_
      refine j_get (ref := "ProxyVersionsModel") (index := 7) (v := .ref (ad 1)) X oMo inX8_delivers_X8 rfl 0 (by decide) (List.mem_of_getElem? (i := 1) rfl) rfl rfl dX8_delivers_42 ?_
      refine j_bipush X (v := (nI 7)) (by decide) dX8_delivers_45 ?_
      refine j_iload_n X 1 dX8_delivers_47 rfl rfl ?_
      refine j_iadd X dX8_delivers_48 ?_
      obtain ⟨hi6, hf⟩ := f_c hf
      refine j_iald X 0 rfl r1 hi6 dX8_delivers_49 ?_
      obtain ⟨x5_7, ex5_7, hf⟩ := f_lt hf
      refine j_top ex5_7 ?_
      refine j_istore (lv' := [(0, .ref (ad 0)), (1, .int x1), (2, .int x2), (3, .int x3), (4, .int x4_5), (5, .int x5_7)]) X dX8_delivers_50 (by decide) rfl ?_
      refine j_iconst X (v := (nI 0)) (by decide) dX8_delivers_52 ?_
      refine j_istore (lv' := [(0, .ref (ad 0)), (1, .int x1), (2, .int x2), (3, .int x3), (4, .int x4_5), (5, .int x5_7), (6, .int (nI 0))]) X dX8_delivers_53 (by decide) rfl ?_
      refine j_iconst X (v := (nI 0)) (by decide) dX8_delivers_55 ?_
      refine j_istore (lv' := [(0, .ref (ad 0)), (1, .int x1), (2, .int x2), (3, .int x3), (4, .int x4_5), (5, .int x5_7), (6, .int (nI 0)), (7, .int (nI 0))]) X dX8_delivers_56 (by decide) rfl ?_
      refine t_X8_delivers_L58 X Y _ _ _ _ hf
    replace hf := f_fn c hf
    refine j_bipush X (v := (-2 : Int32)) (by decide) dX8_delivers_38 ?_
    exact j_iret X Y (f_p1 hf) (f_p2 hf) dX8_delivers_40
  replace hf := f_fn c hf
  refine j_iconst X (v := (-1 : Int32)) (by decide) dX8_delivers_19 ?_
  exact j_iret X Y (f_p1 hf) (f_p2 hf) dX8_delivers_20
abbrev rmX8_loses : Room := { frames := 3, cells := 0, slots := 0, locals := 65 }
theorem inX8_loses_X8 : ∀ w ∈ wsX80, w ∈ wsX8_loses := fun _ h => List.mem_cons_of_mem _ (List.mem_append_right _ h)
set_option maxRecDepth 100000 in
set_option maxHeartbeats 4000000 in
theorem t_X8_loses_j82 (X : CX p rmX8_loses s m args c cX8_loses 7 RX8 wsX8_loses D (tR cI) 8 ad) (Y : RX meth (some .int)) {x1 : Int32} {x2 : Int32} {x3 : Int32} {x4 : Int32} {x5 : Int32} {s1 : Int32} {s2 : Int32} {s3 : Int32} {w : Wd} {kc : Int32 → Wd → Option (Int32 × Wd)} {out : Int32 × Wd} (hf : m_X8_loses_j82 x1 x2 x3 x4 x5 s1 s2 s3 w kc = some out) (hk_kc : ∀ (y5 : Int32) (v : Wd), kc y5 v = some out → WJ p l e rmX8_loses s m args below meth c (MQ below (QWi D 8 ad (cellR cI ad) out.1 out.2) args s 0 0 (AW 8 ad)) 7 D 8 ad (cellR cI ad) v 44 [(0, .ref (ad 0)), (1, .int x1), (2, .int x2), (3, .int x3), (4, .int x4), (5, .int y5)] []) : WJ p l e rmX8_loses s m args below meth c (MQ below (QWi D 8 ad (cellR cI ad) out.1 out.2) args s 0 0 (AW 8 ad)) 7 D 8 ad (cellR cI ad) w 82 [(0, .ref (ad 0)), (1, .int x1), (2, .int x2), (3, .int x3), (4, .int x4), (5, .int x5)] [.int s3, .int s2, .int s1, .ref (ad 1)] := by
  unfold m_X8_loses_j82 at hf
  refine j_iadd X dX8_loses_82 ?_
  obtain ⟨hi1, hf⟩ := f_c hf
  obtain ⟨w2, ew2, hf⟩ := f_lt hf
  refine j_iast X 0 rfl r1 hi1 dX8_loses_83 ew2 ?_
  refine j_iinc (v := (x5 + (nI 1))) (lv' := [(0, .ref (ad 0)), (1, .int x1), (2, .int x2), (3, .int x3), (4, .int x4), (5, .int (x5 + (nI 1)))]) X 5 dX8_loses_84 rfl rfl (by decide) rfl ?_
  refine j_goto (tgt := 44) X dX8_loses_87 (by decide) ?_
  exact hk_kc _ _ hf
set_option maxRecDepth 100000 in
set_option maxHeartbeats 4000000 in
theorem t_X8_loses_L44 (X : CX p rmX8_loses s m args c cX8_loses 7 RX8 wsX8_loses D (tR cI) 8 ad) (Y : RX meth (some .int)) {x1 : Int32} {x2 : Int32} {x3 : Int32} {x4 : Int32} {out : Int32 × Wd} : ∀ (n : Nat) (x5 : Int32) (w : Wd), m_X8_loses_L44 x1 x2 x3 x4 n x5 w = some out → WJ p l e rmX8_loses s m args below meth c (MQ below (QWi D 8 ad (cellR cI ad) out.1 out.2) args s 0 0 (AW 8 ad)) 7 D 8 ad (cellR cI ad) w 44 [(0, .ref (ad 0)), (1, .int x1), (2, .int x2), (3, .int x3), (4, .int x4), (5, .int x5)] [] := by
  intro n
  induction n with
  | zero => intro x5 w hf; exact f_n hf
  | succ n ih =>
    intro x5 w hf
    rw [m_X8_loses_L44] at hf
    refine j_iload X 5 dX8_loses_44 rfl ?_
    refine j_iload_n X 3 dX8_loses_46 rfl rfl ?_
    refine j_icmp_ge (tgt := 90) X dX8_loses_47 (by decide) (fun c => ?_) (fun c => ?_)
    · replace hf := f_t c hf
      refine j_iload X 5 dX8_loses_90 rfl ?_
      exact j_iret X Y (f_p1 hf) (f_p2 hf) dX8_loses_92
    replace hf := f_f c hf
    refine j_iload X 5 dX8_loses_50 rfl ?_
    refine j_iload X 4 dX8_loses_52 rfl ?_
    refine j_icmp_ge (tgt := 90) X dX8_loses_54 (by decide) (fun c => ?_) (fun c => ?_)
    · replace hf := f_t c hf
      refine j_iload X 5 dX8_loses_90 rfl ?_
      exact j_iret X Y (f_p1 hf) (f_p2 hf) dX8_loses_92
    replace hf := f_f c hf
    refine j_aload_n X 0 dX8_loses_57 rfl rfl ?_
    refine j_iload_n X 1 dX8_loses_58 rfl rfl ?_
    refine j_iload_n X 2 dX8_loses_59 rfl rfl ?_
    obtain ⟨o1, ho1, hf⟩ := f_bd hf
    refine j_callVi X oMo rfl rfl [.int x1, .int x2] (c_X8_takes X.2.2.2.2.2.2.2 ho1) (cwV 2 X.2.2.2.2.1 gX8_loses_X8_takes rfl rfl rfl (by decide +kernel) ⟨Nat.le_of_ble_eq_true rfl, Nat.le_of_ble_eq_true rfl⟩) rfl rfl (Nat.le_of_ble_eq_true rfl) dX8_loses_60 ?_
    refine j_istore (lv' := [(0, .ref (ad 0)), (1, .int x1), (2, .int x2), (3, .int x3), (4, .int x4), (5, .int x5), (6, .int o1.1)]) X dX8_loses_63 (by decide) rfl ?_
    refine j_aload_n X 0 dX8_loses_65 rfl rfl ?_
    refine j_get (ref := "ProxyVersionsModel") (index := 7) (v := .ref (ad 1)) X oMo inX8_loses_X8 rfl 0 (by decide) (List.mem_of_getElem? (i := 1) rfl) rfl rfl dX8_loses_66 ?_
    refine j_iconst X (v := (nI 5)) (by decide) dX8_loses_69 ?_
    refine j_dup2 X rfl rfl dX8_loses_70 ?_
    obtain ⟨hi2, hf⟩ := f_c hf
    refine j_iald X 0 rfl r1 hi2 dX8_loses_71 ?_
    refine j_iload X 6 dX8_loses_72 rfl ?_
    refine j_if_le (tgt := 81) X dX8_loses_74 (by decide) (fun c => ?_) (fun c => ?_)
    · replace hf := f_t c hf
      refine j_iconst X (v := (nI 0)) (by decide) dX8_loses_81 ?_
      refine j_sub [0, 1, 2, 3, 4, 5] rfl ?_
      exact t_X8_loses_j82 X Y hf ih
    replace hf := f_f c hf
    refine j_iconst X (v := (nI 1)) (by decide) dX8_loses_77 ?_
    refine j_goto (tgt := 82) X dX8_loses_78 (by decide) ?_
    refine j_sub [0, 1, 2, 3, 4, 5] rfl ?_
    exact t_X8_loses_j82 X Y hf ih
set_option maxRecDepth 100000 in
set_option maxHeartbeats 4000000 in
theorem c_X8_loses (hI : Inj 8 ad) {x1 : Int32} {x2 : Int32} {x3 : Int32} {w : Wd} {out : Int32 × Wd} (hf : m_X8_loses x1 x2 x3 w = some out) : Met l yX8_loses wsX8_loses rmX8_loses (va_Pc [.ref (ad 0), .int x1, .int x2, .int x3] (PW D (tR cI) 8 ad (cellR cI ad) w)) (QWi D 8 ad (cellR cI ad) out.1 out.2) 0 0 (AW 8 ad) := by
  refine mk_met (maxL := 7) (ret := (some .int)) RX8 hI (by decide) rfl rfl (Nat.le_of_ble_eq_true rfl) rfl rfl (fun p e s m args below meth c X Y => ?_)
  unfold m_X8_loses at hf
  refine j_aload_n X 0 dX8_loses_0 rfl rfl ?_
  refine j_iload_n X 1 dX8_loses_1 rfl rfl ?_
  refine j_iload_n X 2 dX8_loses_2 rfl rfl ?_
  obtain ⟨o1, ho1, hf⟩ := f_bd hf
  refine j_callVi X oMo rfl rfl [.int x1, .int x2] (c_X8_isQueue X.2.2.2.2.2.2.2 ho1) (cwV 2 X.2.2.2.2.1 gX8_loses_X8_isQueue rfl rfl rfl (by decide +kernel) ⟨Nat.le_of_ble_eq_true rfl, Nat.le_of_ble_eq_true rfl⟩) rfl rfl (Nat.le_of_ble_eq_true rfl) dX8_loses_3 ?_
  refine j_if_eq (tgt := 19) X dX8_loses_6 (by decide) (fun c => ?_) (fun c => ?_)
  · replace hf := f_t c hf
    refine j_iconst X (v := (-1 : Int32)) (by decide) dX8_loses_19 ?_
    exact j_iret X Y (f_p1 hf) (f_p2 hf) dX8_loses_20
  replace hf := f_f c hf
  refine j_iload_n X 3 dX8_loses_9 rfl rfl ?_
  refine j_iconst X (v := (nI 1)) (by decide) dX8_loses_10 ?_
  refine j_bipush X (v := (nI 9)) (by decide) dX8_loses_11 ?_
  obtain ⟨o2, ho2, hf⟩ := f_bd hf
  refine j_callSi X [.int x3, .int (nI 1), .int (nI 9)] (c_X8_in X.2.2.2.2.2.2.2 ho2) (va_cwS 3 X.2.2.2.2.1 gX8_loses_X8_in rfl rfl rfl (by decide +kernel) ⟨Nat.le_of_ble_eq_true rfl, Nat.le_of_ble_eq_true rfl⟩) rfl rfl (Nat.le_of_ble_eq_true rfl) dX8_loses_13 ?_
  refine j_if_ne (tgt := 21) X dX8_loses_16 (by decide) (fun c => ?_) (fun c => ?_)
  · replace hf := f_t c hf
    refine j_aload_n X 0 dX8_loses_21 rfl rfl ?_
    refine j_get (ref := "ProxyVersionsModel") (index := 7) (v := .ref (ad 1)) X oMo inX8_loses_X8 rfl 0 (by decide) (List.mem_of_getElem? (i := 1) rfl) rfl rfl dX8_loses_22 ?_
    refine j_iload_n X 1 dX8_loses_25 rfl rfl ?_
    refine j_iload_n X 2 dX8_loses_26 rfl rfl ?_
    obtain ⟨o3, ho3, hf⟩ := f_bd hf
    refine j_callSi X [.int x1, .int x2] (c_X8_queueOf X.2.2.2.2.2.2.2 ho3) (va_cwS 2 X.2.2.2.2.1 gX8_loses_X8_queueOf rfl rfl rfl (by decide +kernel) ⟨Nat.le_of_ble_eq_true rfl, Nat.le_of_ble_eq_true rfl⟩) rfl rfl (Nat.le_of_ble_eq_true rfl) dX8_loses_27 ?_
    obtain ⟨hi4, hf⟩ := f_c hf
    refine j_iald X 0 rfl r1 hi4 dX8_loses_30 ?_
    obtain ⟨x4_5, ex4_5, hf⟩ := f_lt hf
    refine j_top ex4_5 ?_
    refine j_istore (lv' := [(0, .ref (ad 0)), (1, .int x1), (2, .int x2), (3, .int x3), (4, .int x4_5)]) X dX8_loses_31 (by decide) rfl ?_
    refine j_iload X 4 dX8_loses_33 rfl ?_
    refine j_if_ne (tgt := 41) X dX8_loses_35 (by decide) (fun c => ?_) (fun c => ?_)
    · replace hf := f_t c hf
      refine j_iconst X (v := (nI 0)) (by decide) dX8_loses_41 ?_
      refine j_istore (lv' := [(0, .ref (ad 0)), (1, .int x1), (2, .int x2), (3, .int x3), (4, .int x4_5), (5, .int (nI 0))]) X dX8_loses_42 (by decide) rfl ?_
      refine t_X8_loses_L44 X Y _ _ _ hf
    replace hf := f_fn c hf
    refine j_bipush X (v := (-2 : Int32)) (by decide) dX8_loses_38 ?_
    exact j_iret X Y (f_p1 hf) (f_p2 hf) dX8_loses_40
  replace hf := f_fn c hf
  refine j_iconst X (v := (-1 : Int32)) (by decide) dX8_loses_19 ?_
  exact j_iret X Y (f_p1 hf) (f_p2 hf) dX8_loses_20
abbrev rmX8_fetches : Room := { frames := 6, cells := 0, slots := 0, locals := 147 }
theorem inX8_fetches_X8 : ∀ w ∈ wsX80, w ∈ wsX8_fetches := fun _ h => List.mem_cons_of_mem _ (List.mem_append_right _ h)
set_option maxRecDepth 100000 in
set_option maxHeartbeats 4000000 in
theorem t_X8_fetches_j54 (X : CX p rmX8_fetches s m args c cX8_fetches 7 RX8 wsX8_fetches D (tR cI) 8 ad) (Y : RX meth (some .int)) {x1 : Int32} {x2 : Int32} {x3 : Int32} {x4 : Int32} {x5 : Int32} {w : Wd} {kc : Int32 → Int32 → Wd → Option (Int32 × Wd)} {kx60 : Int32 → Wd → Option (Int32 × Wd)} {out : Int32 × Wd} (hf : m_X8_fetches_j54 x1 x2 x3 x4 x5 w kc kx60 = some out) (hk_kc : ∀ (y2 : Int32) (y5 : Int32) (v : Wd), kc y2 y5 v = some out → WJ p l e rmX8_fetches s m args below meth c (MQ below (QWi D 8 ad (cellR cI ad) out.1 out.2) args s 0 0 (AW 8 ad)) 7 D 8 ad (cellR cI ad) v 20 [(0, .ref (ad 0)), (1, .int x1), (2, .int y2), (3, .int x3), (4, .int x4), (5, .int y5)] []) (hk_kx60 : ∀ (y2 : Int32) (v : Wd), kx60 y2 v = some out → WJ p l e rmX8_fetches s m args below meth c (MQ below (QWi D 8 ad (cellR cI ad) out.1 out.2) args s 0 0 (AW 8 ad)) 7 D 8 ad (cellR cI ad) v 60 [(0, .ref (ad 0)), (1, .int x1), (2, .int y2), (3, .int x3)] []) : WJ p l e rmX8_fetches s m args below meth c (MQ below (QWi D 8 ad (cellR cI ad) out.1 out.2) args s 0 0 (AW 8 ad)) 7 D 8 ad (cellR cI ad) w 54 [(0, .ref (ad 0)), (1, .int x1), (2, .int x2), (3, .int x3), (4, .int x4), (5, .int x5)] [] := by
  unfold m_X8_fetches_j54 at hf
  refine j_iinc (v := (x5 + (nI 1))) (lv' := [(0, .ref (ad 0)), (1, .int x1), (2, .int x2), (3, .int x3), (4, .int x4), (5, .int (x5 + (nI 1)))]) X 5 dX8_fetches_54 rfl rfl (by decide) rfl ?_
  refine j_goto (tgt := 20) X dX8_fetches_57 (by decide) ?_
  exact hk_kc _ _ _ hf
set_option maxRecDepth 100000 in
set_option maxHeartbeats 4000000 in
theorem t_X8_fetches_L20 (X : CX p rmX8_fetches s m args c cX8_fetches 7 RX8 wsX8_fetches D (tR cI) 8 ad) (Y : RX meth (some .int)) {x1 : Int32} {x3 : Int32} {x4 : Int32} {kx60 : Int32 → Wd → Option (Int32 × Wd)} {out : Int32 × Wd} (hk_kx60 : ∀ (y2 : Int32) (v : Wd), kx60 y2 v = some out → WJ p l e rmX8_fetches s m args below meth c (MQ below (QWi D 8 ad (cellR cI ad) out.1 out.2) args s 0 0 (AW 8 ad)) 7 D 8 ad (cellR cI ad) v 60 [(0, .ref (ad 0)), (1, .int x1), (2, .int y2), (3, .int x3)] []) : ∀ (n : Nat) (x2 : Int32) (x5 : Int32) (w : Wd), m_X8_fetches_L20 x1 x3 x4 kx60 n x2 x5 w = some out → WJ p l e rmX8_fetches s m args below meth c (MQ below (QWi D 8 ad (cellR cI ad) out.1 out.2) args s 0 0 (AW 8 ad)) 7 D 8 ad (cellR cI ad) w 20 [(0, .ref (ad 0)), (1, .int x1), (2, .int x2), (3, .int x3), (4, .int x4), (5, .int x5)] [] := by
  intro n
  induction n with
  | zero => intro x2 x5 w hf; exact f_n hf
  | succ n ih =>
    intro x2 x5 w hf
    rw [m_X8_fetches_L20] at hf
    refine j_iload X 5 dX8_fetches_20 rfl ?_
    refine j_iload X 4 dX8_fetches_22 rfl ?_
    refine j_icmp_ge (tgt := 60) X dX8_fetches_24 (by decide) (fun c => ?_) (fun c => ?_)
    · replace hf := f_t c hf
      refine j_sub [0, 1, 2, 3] rfl ?_
      exact hk_kx60 _ _ hf
    replace hf := f_f c hf
    refine j_aload_n X 0 dX8_fetches_27 rfl rfl ?_
    refine j_iload_n X 1 dX8_fetches_28 rfl rfl ?_
    refine j_iload_n X 3 dX8_fetches_29 rfl rfl ?_
    refine j_iload X 5 dX8_fetches_30 rfl ?_
    obtain ⟨o1, ho1, hf⟩ := f_bd hf
    refine j_callVi X oMo rfl rfl [.int x1, .int x3, .int x5] (c_X8_knows X.2.2.2.2.2.2.2 ho1) (cwV 3 X.2.2.2.2.1 gX8_fetches_X8_knows rfl rfl rfl (by decide +kernel) ⟨Nat.le_of_ble_eq_true rfl, Nat.le_of_ble_eq_true rfl⟩) rfl rfl (Nat.le_of_ble_eq_true rfl) dX8_fetches_32 ?_
    refine j_if_ne (tgt := 54) X dX8_fetches_35 (by decide) (fun c => ?_) (fun c => ?_)
    · replace hf := f_t c hf
      exact t_X8_fetches_j54 X Y hf ih hk_kx60
    replace hf := f_fn c hf
    refine j_aload_n X 0 dX8_fetches_38 rfl rfl ?_
    refine j_get (ref := "ProxyVersionsModel") (index := 25) (v := .ref (ad 6)) X oMo inX8_fetches_X8 rfl 7 (by decide) (List.mem_of_getElem? (i := 1) rfl) rfl rfl dX8_fetches_39 ?_
    refine j_iload_n X 2 dX8_fetches_42 rfl rfl ?_
    refine j_bipush X (v := (nI 100)) (by decide) dX8_fetches_43 ?_
    refine j_iload_n X 3 dX8_fetches_45 rfl rfl ?_
    refine j_imul X dX8_fetches_46 ?_
    refine j_iload X 5 dX8_fetches_47 rfl ?_
    refine j_iadd X dX8_fetches_49 ?_
    obtain ⟨hi2, hf⟩ := f_c hf
    obtain ⟨w3, ew3, hf⟩ := f_lt hf
    refine j_iast X 0 rfl r6 hi2 dX8_fetches_50 ew3 ?_
    refine j_iinc (v := (x2 + (nI 1))) (lv' := [(0, .ref (ad 0)), (1, .int x1), (2, .int (x2 + (nI 1))), (3, .int x3), (4, .int x4), (5, .int x5)]) X 2 dX8_fetches_51 rfl rfl (by decide) rfl ?_
    exact t_X8_fetches_j54 X Y hf ih hk_kx60
set_option maxRecDepth 100000 in
set_option maxHeartbeats 4000000 in
theorem t_X8_fetches_L4 (X : CX p rmX8_fetches s m args c cX8_fetches 7 RX8 wsX8_fetches D (tR cI) 8 ad) (Y : RX meth (some .int)) {x1 : Int32} {kx66 : Int32 → Wd → Option (Int32 × Wd)} {out : Int32 × Wd} (hk_kx66 : ∀ (y2 : Int32) (v : Wd), kx66 y2 v = some out → WJ p l e rmX8_fetches s m args below meth c (MQ below (QWi D 8 ad (cellR cI ad) out.1 out.2) args s 0 0 (AW 8 ad)) 7 D 8 ad (cellR cI ad) v 66 [(0, .ref (ad 0)), (1, .int x1), (2, .int y2)] []) : ∀ (n : Nat) (x2 : Int32) (x3 : Int32) (w : Wd), m_X8_fetches_L4 x1 kx66 n x2 x3 w = some out → WJ p l e rmX8_fetches s m args below meth c (MQ below (QWi D 8 ad (cellR cI ad) out.1 out.2) args s 0 0 (AW 8 ad)) 7 D 8 ad (cellR cI ad) w 4 [(0, .ref (ad 0)), (1, .int x1), (2, .int x2), (3, .int x3)] [] := by
  intro n
  induction n with
  | zero => intro x2 x3 w hf; exact f_n hf
  | succ n ih =>
    intro x2 x3 w hf
    rw [m_X8_fetches_L4] at hf
    refine j_iload_n X 3 dX8_fetches_4 rfl rfl ?_
    refine j_iconst X (v := (nI 4)) (by decide) dX8_fetches_5 ?_
    refine j_icmp_ge (tgt := 66) X dX8_fetches_6 (by decide) (fun c => ?_) (fun c => ?_)
    · replace hf := f_t c hf
      refine j_sub [0, 1, 2] rfl ?_
      exact hk_kx66 _ _ hf
    replace hf := f_f c hf
    refine j_aload_n X 0 dX8_fetches_9 rfl rfl ?_
    refine j_iload_n X 1 dX8_fetches_10 rfl rfl ?_
    refine j_iload_n X 3 dX8_fetches_11 rfl rfl ?_
    obtain ⟨o1, ho1, hf⟩ := f_bd hf
    refine j_callVi X oMo rfl rfl [.int x1, .int x3] (c_X8_boundOf X.2.2.2.2.2.2.2 ho1) (cwV 2 X.2.2.2.2.1 gX8_fetches_X8_boundOf rfl rfl rfl (by decide +kernel) ⟨Nat.le_of_ble_eq_true rfl, Nat.le_of_ble_eq_true rfl⟩) rfl rfl (Nat.le_of_ble_eq_true rfl) dX8_fetches_12 ?_
    refine j_istore (lv' := [(0, .ref (ad 0)), (1, .int x1), (2, .int x2), (3, .int x3), (4, .int o1)]) X dX8_fetches_15 (by decide) rfl ?_
    refine j_iconst X (v := (nI 1)) (by decide) dX8_fetches_17 ?_
    refine j_istore (lv' := [(0, .ref (ad 0)), (1, .int x1), (2, .int x2), (3, .int x3), (4, .int o1), (5, .int (nI 1))]) X dX8_fetches_18 (by decide) rfl ?_
    refine t_X8_fetches_L20 X Y ?_ _ _ _ _ hf
    intro x2_2 w3 hf
    refine j_iinc (v := (x3 + (nI 1))) (lv' := [(0, .ref (ad 0)), (1, .int x1), (2, .int x2_2), (3, .int (x3 + (nI 1)))]) X 3 dX8_fetches_60 rfl rfl (by decide) rfl ?_
    refine j_goto (tgt := 4) X dX8_fetches_63 (by decide) ?_
    exact ih _ _ _ hf
set_option maxRecDepth 100000 in
set_option maxHeartbeats 4000000 in
theorem t_X8_fetches_j166 (X : CX p rmX8_fetches s m args c cX8_fetches 7 RX8 wsX8_fetches D (tR cI) 8 ad) (Y : RX meth (some .int)) {x1 : Int32} {x2 : Int32} {x3 : Int32} {x4 : Int32} {x5 : Int32} {w : Wd} {kc : Int32 → Int32 → Wd → Option (Int32 × Wd)} {out : Int32 × Wd} (hf : m_X8_fetches_j166 x1 x2 x3 x4 x5 w kc = some out) (hk_kc : ∀ (y3 : Int32) (y5 : Int32) (v : Wd), kc y3 y5 v = some out → WJ p l e rmX8_fetches s m args below meth c (MQ below (QWi D 8 ad (cellR cI ad) out.1 out.2) args s 0 0 (AW 8 ad)) 7 D 8 ad (cellR cI ad) v 82 [(0, .ref (ad 0)), (1, .int x1), (2, .int x2), (3, .int y3), (4, .int x4), (5, .int y5)] []) : WJ p l e rmX8_fetches s m args below meth c (MQ below (QWi D 8 ad (cellR cI ad) out.1 out.2) args s 0 0 (AW 8 ad)) 7 D 8 ad (cellR cI ad) w 166 [(0, .ref (ad 0)), (1, .int x1), (2, .int x2), (3, .int x3), (4, .int x4), (5, .int x5)] [] := by
  unfold m_X8_fetches_j166 at hf
  refine j_iinc (v := (x5 + (nI 1))) (lv' := [(0, .ref (ad 0)), (1, .int x1), (2, .int x2), (3, .int x3), (4, .int x4), (5, .int (x5 + (nI 1)))]) X 5 dX8_fetches_166 rfl rfl (by decide) rfl ?_
  refine j_goto (tgt := 82) X dX8_fetches_169 (by decide) ?_
  exact hk_kc _ _ _ hf
set_option maxRecDepth 100000 in
set_option maxHeartbeats 4000000 in
theorem t_X8_fetches_j162 (X : CX p rmX8_fetches s m args c cX8_fetches 7 RX8 wsX8_fetches D (tR cI) 8 ad) (Y : RX meth (some .int)) {x1 : Int32} {x2 : Int32} {x3 : Int32} {x4 : Int32} {x5 : Int32} {s1 : Int32} {s2 : Int32} {w : Wd} {kc : Int32 → Int32 → Wd → Option (Int32 × Wd)} {out : Int32 × Wd} (hf : m_X8_fetches_j162 x1 x2 x3 x4 x5 s1 s2 w kc = some out) (hk_kc : ∀ (y3 : Int32) (y5 : Int32) (v : Wd), kc y3 y5 v = some out → WJ p l e rmX8_fetches s m args below meth c (MQ below (QWi D 8 ad (cellR cI ad) out.1 out.2) args s 0 0 (AW 8 ad)) 7 D 8 ad (cellR cI ad) v 82 [(0, .ref (ad 0)), (1, .int x1), (2, .int x2), (3, .int y3), (4, .int x4), (5, .int y5)] []) : WJ p l e rmX8_fetches s m args below meth c (MQ below (QWi D 8 ad (cellR cI ad) out.1 out.2) args s 0 0 (AW 8 ad)) 7 D 8 ad (cellR cI ad) w 162 [(0, .ref (ad 0)), (1, .int x1), (2, .int x2), (3, .int x3), (4, .int x4), (5, .int x5)] [.int s2, .int s1, .ref (ad 0)] := by
  unfold m_X8_fetches_j162 at hf
  refine j_iadd X dX8_fetches_162 ?_
  obtain ⟨w1, ew1, hf⟩ := f_lt hf
  refine j_put (ref := "ProxyVersionsModel") (index := 116)  X oMo inX8_fetches_X8 tyX8_ok nmX8 rfl 8 (by decide) (List.mem_of_getElem? (i := 3) rfl) rfl rfl rfl (Nat.le_of_ble_eq_true rfl) rfl dX8_fetches_163 ew1 ?_
  exact t_X8_fetches_j166 X Y hf hk_kc
set_option maxRecDepth 100000 in
set_option maxHeartbeats 4000000 in
theorem t_X8_fetches_j145 (X : CX p rmX8_fetches s m args c cX8_fetches 7 RX8 wsX8_fetches D (tR cI) 8 ad) (Y : RX meth (some .int)) {x1 : Int32} {x2 : Int32} {x4 : Int32} {x5 : Int32} {x6 : Int32} {s0 : Int32} {s1 : Int32} {w : Wd} {kc : Int32 → Int32 → Wd → Option (Int32 × Wd)} {out : Int32 × Wd} (hf : m_X8_fetches_j145 x1 x2 x4 x5 x6 s0 s1 w kc = some out) (hk_kc : ∀ (y3 : Int32) (y5 : Int32) (v : Wd), kc y3 y5 v = some out → WJ p l e rmX8_fetches s m args below meth c (MQ below (QWi D 8 ad (cellR cI ad) out.1 out.2) args s 0 0 (AW 8 ad)) 7 D 8 ad (cellR cI ad) v 82 [(0, .ref (ad 0)), (1, .int x1), (2, .int x2), (3, .int y3), (4, .int x4), (5, .int y5)] []) : WJ p l e rmX8_fetches s m args below meth c (MQ below (QWi D 8 ad (cellR cI ad) out.1 out.2) args s 0 0 (AW 8 ad)) 7 D 8 ad (cellR cI ad) w 145 [(0, .ref (ad 0)), (1, .int x1), (2, .int x2), (4, .int x4), (5, .int x5), (6, .int x6)] [.int s1, .int s0] := by
  unfold m_X8_fetches_j145 at hf
  refine j_iadd X dX8_fetches_145 ?_
  obtain ⟨x3_1, ex3_1, hf⟩ := f_lt hf
  refine j_top ex3_1 ?_
  refine j_istore_n (lv' := [(0, .ref (ad 0)), (1, .int x1), (2, .int x2), (3, .int x3_1), (4, .int x4), (5, .int x5), (6, .int x6)]) X dX8_fetches_146 rfl (by decide) rfl ?_
  refine j_aload_n X 0 dX8_fetches_147 rfl rfl ?_
  refine j_dup X rfl dX8_fetches_148 ?_
  refine j_get (ref := "ProxyVersionsModel") (index := 116) (v := .int (w 0 8)) X oMo inX8_fetches_X8 rfl 8 (by decide) (List.mem_of_getElem? (i := 3) rfl) rfl rfl dX8_fetches_149 ?_
  refine j_iload X 6 dX8_fetches_152 rfl ?_
  refine j_if_eq (tgt := 161) X dX8_fetches_154 (by decide) (fun c => ?_) (fun c => ?_)
  · replace hf := f_t c hf
    refine j_iconst X (v := (nI 0)) (by decide) dX8_fetches_161 ?_
    refine j_sub [0, 1, 2, 3, 4, 5] rfl ?_
    exact t_X8_fetches_j162 X Y hf hk_kc
  replace hf := f_f c hf
  refine j_iconst X (v := (nI 1)) (by decide) dX8_fetches_157 ?_
  refine j_goto (tgt := 162) X dX8_fetches_158 (by decide) ?_
  refine j_sub [0, 1, 2, 3, 4, 5] rfl ?_
  exact t_X8_fetches_j162 X Y hf hk_kc
set_option maxRecDepth 100000 in
set_option maxHeartbeats 4000000 in
theorem t_X8_fetches_L82 (X : CX p rmX8_fetches s m args c cX8_fetches 7 RX8 wsX8_fetches D (tR cI) 8 ad) (Y : RX meth (some .int)) {x1 : Int32} {x2 : Int32} {x4 : Int32} {out : Int32 × Wd} : ∀ (n : Nat) (x3 : Int32) (x5 : Int32) (w : Wd), m_X8_fetches_L82 x1 x2 x4 n x3 x5 w = some out → WJ p l e rmX8_fetches s m args below meth c (MQ below (QWi D 8 ad (cellR cI ad) out.1 out.2) args s 0 0 (AW 8 ad)) 7 D 8 ad (cellR cI ad) w 82 [(0, .ref (ad 0)), (1, .int x1), (2, .int x2), (3, .int x3), (4, .int x4), (5, .int x5)] [] := by
  intro n
  induction n with
  | zero => intro x3 x5 w hf; exact f_n hf
  | succ n ih =>
    intro x3 x5 w hf
    rw [m_X8_fetches_L82] at hf
    refine j_iload X 5 dX8_fetches_82 rfl ?_
    refine j_iload_n X 2 dX8_fetches_84 rfl rfl ?_
    refine j_icmp_ge (tgt := 172) X dX8_fetches_85 (by decide) (fun c => ?_) (fun c => ?_)
    · replace hf := f_t c hf
      refine j_iload_n X 3 dX8_fetches_172 rfl rfl ?_
      exact j_iret X Y (f_p1 hf) (f_p2 hf) dX8_fetches_173
    replace hf := f_f c hf
    refine j_aload_n X 0 dX8_fetches_88 rfl rfl ?_
    refine j_iload X 4 dX8_fetches_89 rfl ?_
    refine j_aload_n X 0 dX8_fetches_91 rfl rfl ?_
    refine j_get (ref := "ProxyVersionsModel") (index := 25) (v := .ref (ad 6)) X oMo inX8_fetches_X8 rfl 7 (by decide) (List.mem_of_getElem? (i := 1) rfl) rfl rfl dX8_fetches_92 ?_
    refine j_iload X 5 dX8_fetches_95 rfl ?_
    obtain ⟨hi1, hf⟩ := f_c hf
    refine j_iald X 0 rfl r6 hi1 dX8_fetches_97 ?_
    refine j_bipush X (v := (nI 100)) (by decide) dX8_fetches_98 ?_
    refine j_idiv X (by decide) dX8_fetches_100 ?_
    refine j_aload_n X 0 dX8_fetches_101 rfl rfl ?_
    refine j_get (ref := "ProxyVersionsModel") (index := 25) (v := .ref (ad 6)) X oMo inX8_fetches_X8 rfl 7 (by decide) (List.mem_of_getElem? (i := 1) rfl) rfl rfl dX8_fetches_102 ?_
    refine j_iload X 5 dX8_fetches_105 rfl ?_
    obtain ⟨hi2, hf⟩ := f_c hf
    refine j_iald X 0 rfl r6 hi2 dX8_fetches_107 ?_
    refine j_bipush X (v := (nI 100)) (by decide) dX8_fetches_108 ?_
    refine j_irem X (by decide) dX8_fetches_110 ?_
    obtain ⟨o3, ho3, hf⟩ := f_bd hf
    refine j_callVi X oMo rfl rfl [.int x4, .int ((w 6 x5.toNatClampNeg) / (nI 100)), .int ((w 6 x5.toNatClampNeg) - (w 6 x5.toNatClampNeg) / (nI 100) * (nI 100))] (c_X8_knows X.2.2.2.2.2.2.2 ho3) (cwV 3 X.2.2.2.2.1 gX8_fetches_X8_knows rfl rfl rfl (by decide +kernel) ⟨Nat.le_of_ble_eq_true rfl, Nat.le_of_ble_eq_true rfl⟩) rfl rfl (Nat.le_of_ble_eq_true rfl) dX8_fetches_111 ?_
    refine j_if_eq (tgt := 166) X dX8_fetches_114 (by decide) (fun c => ?_) (fun c => ?_)
    · replace hf := f_t c hf
      exact t_X8_fetches_j166 X Y hf ih
    replace hf := f_f c hf
    refine j_aload_n X 0 dX8_fetches_117 rfl rfl ?_
    refine j_iload_n X 1 dX8_fetches_118 rfl rfl ?_
    refine j_aload_n X 0 dX8_fetches_119 rfl rfl ?_
    refine j_get (ref := "ProxyVersionsModel") (index := 25) (v := .ref (ad 6)) X oMo inX8_fetches_X8 rfl 7 (by decide) (List.mem_of_getElem? (i := 1) rfl) rfl rfl dX8_fetches_120 ?_
    refine j_iload X 5 dX8_fetches_123 rfl ?_
    obtain ⟨hi4, hf⟩ := f_c hf
    refine j_iald X 0 rfl r6 hi4 dX8_fetches_125 ?_
    refine j_iload X 4 dX8_fetches_126 rfl ?_
    obtain ⟨o5, ho5, hf⟩ := f_bd hf
    refine j_callVi X oMo rfl rfl [.int x1, .int (w 6 x5.toNatClampNeg), .int x4] (c_X8_arrives X.2.2.2.2.2.2.2 ho5) (cwV 3 X.2.2.2.2.1 gX8_fetches_X8_arrives rfl rfl rfl (by decide +kernel) ⟨Nat.le_of_ble_eq_true rfl, Nat.le_of_ble_eq_true rfl⟩) rfl rfl (Nat.le_of_ble_eq_true rfl) dX8_fetches_128 ?_
    refine j_istore (lv' := [(0, .ref (ad 0)), (1, .int x1), (2, .int x2), (3, .int x3), (4, .int x4), (5, .int x5), (6, .int o5.1)]) X dX8_fetches_131 (by decide) rfl ?_
    refine j_iload_n X 3 dX8_fetches_133 rfl rfl ?_
    refine j_iload X 6 dX8_fetches_134 rfl ?_
    refine j_iconst X (v := (nI 1)) (by decide) dX8_fetches_136 ?_
    refine j_icmp_ne (tgt := 144) X dX8_fetches_137 (by decide) (fun c => ?_) (fun c => ?_)
    · replace hf := f_t c hf
      refine j_iconst X (v := (nI 0)) (by decide) dX8_fetches_144 ?_
      refine j_sub [0, 1, 2, 4, 5, 6] rfl ?_
      exact t_X8_fetches_j145 X Y hf ih
    replace hf := f_fn c hf
    refine j_iconst X (v := (nI 1)) (by decide) dX8_fetches_140 ?_
    refine j_goto (tgt := 145) X dX8_fetches_141 (by decide) ?_
    refine j_sub [0, 1, 2, 4, 5, 6] rfl ?_
    exact t_X8_fetches_j145 X Y hf ih
set_option maxRecDepth 100000 in
set_option maxHeartbeats 4000000 in
theorem c_X8_fetches (hI : Inj 8 ad) {x1 : Int32} {w : Wd} {out : Int32 × Wd} (hf : m_X8_fetches x1 w = some out) : Met l yX8_fetches wsX8_fetches rmX8_fetches (va_Pc [.ref (ad 0), .int x1] (PW D (tR cI) 8 ad (cellR cI ad) w)) (QWi D 8 ad (cellR cI ad) out.1 out.2) 0 0 (AW 8 ad) := by
  refine mk_met (maxL := 7) (ret := (some .int)) RX8 hI (by decide) rfl rfl (Nat.le_of_ble_eq_true rfl) rfl rfl (fun p e s m args below meth c X Y => ?_)
  unfold m_X8_fetches at hf
  refine j_iconst X (v := (nI 0)) (by decide) dX8_fetches_0 ?_
  refine j_istore_n (lv' := [(0, .ref (ad 0)), (1, .int x1), (2, .int (nI 0))]) X dX8_fetches_1 rfl (by decide) rfl ?_
  refine j_iconst X (v := (nI 0)) (by decide) dX8_fetches_2 ?_
  refine j_istore_n (lv' := [(0, .ref (ad 0)), (1, .int x1), (2, .int (nI 0)), (3, .int (nI 0))]) X dX8_fetches_3 rfl (by decide) rfl ?_
  refine t_X8_fetches_L4 X Y ?_ _ _ _ _ hf
  intro x2_1 w2 hf
  refine j_iconst X (v := (nI 0)) (by decide) dX8_fetches_66 ?_
  refine j_istore_n (lv' := [(0, .ref (ad 0)), (1, .int x1), (2, .int x2_1), (3, .int (nI 0))]) X dX8_fetches_67 rfl (by decide) rfl ?_
  refine j_aload_n X 0 dX8_fetches_68 rfl rfl ?_
  refine j_get (ref := "ProxyVersionsModel") (index := 7) (v := .ref (ad 1)) X oMo inX8_fetches_X8 rfl 0 (by decide) (List.mem_of_getElem? (i := 2) rfl) rfl rfl dX8_fetches_69 ?_
  refine j_bipush X (v := (nI 7)) (by decide) dX8_fetches_72 ?_
  refine j_iload_n X 1 dX8_fetches_74 rfl rfl ?_
  refine j_iadd X dX8_fetches_75 ?_
  obtain ⟨hi3, hf⟩ := f_c hf
  refine j_iald X 0 rfl r1 hi3 dX8_fetches_76 ?_
  obtain ⟨x4_4, ex4_4, hf⟩ := f_lt hf
  refine j_top ex4_4 ?_
  refine j_istore (lv' := [(0, .ref (ad 0)), (1, .int x1), (2, .int x2_1), (3, .int (nI 0)), (4, .int x4_4)]) X dX8_fetches_77 (by decide) rfl ?_
  refine j_iconst X (v := (nI 0)) (by decide) dX8_fetches_79 ?_
  refine j_istore (lv' := [(0, .ref (ad 0)), (1, .int x1), (2, .int x2_1), (3, .int (nI 0)), (4, .int x4_4), (5, .int (nI 0))]) X dX8_fetches_80 (by decide) rfl ?_
  refine t_X8_fetches_L82 X Y _ _ _ _ hf
abbrev rmX8_asks : Room := { frames := 7, cells := 0, slots := 0, locals := 173 }
theorem inX8_asks_X8 : ∀ w ∈ wsX80, w ∈ wsX8_asks := fun _ h => List.mem_cons_of_mem _ (List.mem_append_right _ h)
set_option maxRecDepth 100000 in
set_option maxHeartbeats 4000000 in
theorem t_X8_asks_L31 (X : CX p rmX8_asks s m args c cX8_asks 5 RX8 wsX8_asks D (tR cI) 8 ad) (Y : RX meth (some .int)) {x1 : Int32} {x3 : Int32} {kx56 : Int32 → Wd → Option (Int32 × Wd)} {out : Int32 × Wd} (hk_kx56 : ∀ (y4 : Int32) (v : Wd), kx56 y4 v = some out → WJ p l e rmX8_asks s m args below meth c (MQ below (QWi D 8 ad (cellR cI ad) out.1 out.2) args s 0 0 (AW 8 ad)) 5 D 8 ad (cellR cI ad) v 56 [(0, .ref (ad 0)), (1, .int x1), (3, .int x3), (4, .int y4)] []) : ∀ (n : Nat) (x4 : Int32) (w : Wd), m_X8_asks_L31 x1 x3 kx56 n x4 w = some out → WJ p l e rmX8_asks s m args below meth c (MQ below (QWi D 8 ad (cellR cI ad) out.1 out.2) args s 0 0 (AW 8 ad)) 5 D 8 ad (cellR cI ad) w 31 [(0, .ref (ad 0)), (1, .int x1), (3, .int x3), (4, .int x4)] [] := by
  intro n
  induction n with
  | zero => intro x4 w hf; exact f_n hf
  | succ n ih =>
    intro x4 w hf
    rw [m_X8_asks_L31] at hf
    refine j_aload_n X 0 dX8_asks_31 rfl rfl ?_
    refine j_iload X 3 dX8_asks_32 rfl ?_
    obtain ⟨o1, ho1, hf⟩ := f_bd hf
    refine j_callVi X oMo rfl rfl [.int x4] (c_X8_depth X.2.2.2.2.2.2.2 ho1) (cwV 1 X.2.2.2.2.1 gX8_asks_X8_depth rfl rfl rfl (by decide +kernel) ⟨Nat.le_of_ble_eq_true rfl, Nat.le_of_ble_eq_true rfl⟩) rfl rfl (Nat.le_of_ble_eq_true rfl) dX8_asks_34 ?_
    refine j_iload_n X 2 dX8_asks_37 rfl rfl ?_
    refine j_icmp_le (tgt := 56) X dX8_asks_38 (by decide) (fun c => ?_) (fun c => ?_)
    · replace hf := f_t c hf
      exact hk_kx56 _ _ hf
    replace hf := f_f c hf
    refine j_aload_n X 0 dX8_asks_41 rfl rfl ?_
    refine j_get (ref := "ProxyVersionsModel") (index := 7) (v := .ref (ad 1)) X oMo inX8_asks_X8 rfl 0 (by decide) (List.mem_of_getElem? (i := 2) rfl) rfl rfl dX8_asks_42 ?_
    refine j_bipush X (v := (nI 7)) (by decide) dX8_asks_45 ?_
    refine j_iload X 3 dX8_asks_47 rfl ?_
    refine j_iadd X dX8_asks_49 ?_
    obtain ⟨hi2, hf⟩ := f_c hf
    refine j_iald X 0 rfl r1 hi2 dX8_asks_50 ?_
    obtain ⟨x4_3, ex4_3, hf⟩ := f_lt hf
    refine j_top ex4_3 ?_
    refine j_istore (lv' := [(0, .ref (ad 0)), (1, .int x1), (3, .int x3), (4, .int x4_3)]) X dX8_asks_51 (by decide) rfl ?_
    refine j_goto (tgt := 31) X dX8_asks_53 (by decide) ?_
    exact ih _ _ hf
set_option maxRecDepth 100000 in
set_option maxHeartbeats 4000000 in
theorem t_X8_asks_L19 (X : CX p rmX8_asks s m args c cX8_asks 5 RX8 wsX8_asks D (tR cI) 8 ad) (Y : RX meth (some .int)) {x1 : Int32} {kx69 : Int32 → Wd → Option (Int32 × Wd)} {out : Int32 × Wd} (hk_kx69 : ∀ (y2 : Int32) (v : Wd), kx69 y2 v = some out → WJ p l e rmX8_asks s m args below meth c (MQ below (QWi D 8 ad (cellR cI ad) out.1 out.2) args s 0 0 (AW 8 ad)) 5 D 8 ad (cellR cI ad) v 69 [(0, .ref (ad 0)), (2, .int y2)] []) : ∀ (n : Nat) (x2 : Int32) (x3 : Int32) (w : Wd), m_X8_asks_L19 x1 kx69 n x2 x3 w = some out → WJ p l e rmX8_asks s m args below meth c (MQ below (QWi D 8 ad (cellR cI ad) out.1 out.2) args s 0 0 (AW 8 ad)) 5 D 8 ad (cellR cI ad) w 19 [(0, .ref (ad 0)), (1, .int x1), (2, .int x2), (3, .int x3)] [] := by
  intro n
  induction n with
  | zero => intro x2 x3 w hf; exact f_n hf
  | succ n ih =>
    intro x2 x3 w hf
    rw [m_X8_asks_L19] at hf
    refine j_iload_n X 3 dX8_asks_19 rfl rfl ?_
    refine j_aload_n X 0 dX8_asks_20 rfl rfl ?_
    refine j_iload_n X 1 dX8_asks_21 rfl rfl ?_
    obtain ⟨o1, ho1, hf⟩ := f_bd hf
    refine j_callVi X oMo rfl rfl [.int x1] (c_X8_depth X.2.2.2.2.2.2.2 ho1) (cwV 1 X.2.2.2.2.1 gX8_asks_X8_depth rfl rfl rfl (by decide +kernel) ⟨Nat.le_of_ble_eq_true rfl, Nat.le_of_ble_eq_true rfl⟩) rfl rfl (Nat.le_of_ble_eq_true rfl) dX8_asks_22 ?_
    refine j_icmp_gt (tgt := 69) X dX8_asks_25 (by decide) (fun c => ?_) (fun c => ?_)
    · replace hf := f_t c hf
      refine j_sub [0, 2] rfl ?_
      exact hk_kx69 _ _ hf
    replace hf := f_f c hf
    refine j_iload_n X 1 dX8_asks_28 rfl rfl ?_
    refine j_istore (lv' := [(0, .ref (ad 0)), (1, .int x1), (2, .int x2), (3, .int x3), (4, .int x1)]) X dX8_asks_29 (by decide) rfl ?_
    refine j_sub [0, 1, 3, 4] rfl ?_
    refine t_X8_asks_L31 X Y ?_ _ _ _ hf
    intro x4_2 w3 hf
    refine j_aload_n X 0 dX8_asks_56 rfl rfl ?_
    refine j_iload X 3 dX8_asks_57 rfl ?_
    obtain ⟨o4, ho4, hf⟩ := f_bd hf
    refine j_callVi X oMo rfl rfl [.int x4_2] (c_X8_fetches X.2.2.2.2.2.2.2 ho4) (cwV 1 X.2.2.2.2.1 gX8_asks_X8_fetches rfl rfl rfl (by decide +kernel) ⟨Nat.le_of_ble_eq_true rfl, Nat.le_of_ble_eq_true rfl⟩) rfl rfl (Nat.le_of_ble_eq_true rfl) dX8_asks_59 ?_
    refine j_istore_n (lv' := [(0, .ref (ad 0)), (1, .int x1), (2, .int o4.1), (3, .int x3), (4, .int x4_2)]) X dX8_asks_62 rfl (by decide) rfl ?_
    refine j_iinc (v := (x3 + (nI 1))) (lv' := [(0, .ref (ad 0)), (1, .int x1), (2, .int o4.1), (3, .int (x3 + (nI 1))), (4, .int x4_2)]) X 3 dX8_asks_63 rfl rfl (by decide) rfl ?_
    refine j_goto (tgt := 19) X dX8_asks_66 (by decide) ?_
    refine j_sub [0, 1, 2, 3] rfl ?_
    exact ih _ _ _ hf
set_option maxRecDepth 100000 in
set_option maxHeartbeats 4000000 in
theorem c_X8_asks (hI : Inj 8 ad) {x1 : Int32} {w : Wd} {out : Int32 × Wd} (hf : m_X8_asks x1 w = some out) : Met l yX8_asks wsX8_asks rmX8_asks (va_Pc [.ref (ad 0), .int x1] (PW D (tR cI) 8 ad (cellR cI ad) w)) (QWi D 8 ad (cellR cI ad) out.1 out.2) 0 0 (AW 8 ad) := by
  refine mk_met (maxL := 5) (ret := (some .int)) RX8 hI (by decide) rfl rfl (Nat.le_of_ble_eq_true rfl) rfl rfl (fun p e s m args below meth c X Y => ?_)
  unfold m_X8_asks at hf
  refine j_aload_n X 0 dX8_asks_0 rfl rfl ?_
  refine j_iload_n X 1 dX8_asks_1 rfl rfl ?_
  obtain ⟨o1, ho1, hf⟩ := f_bd hf
  refine j_callVi X oMo rfl rfl [.int x1] (c_X8_isChild X.2.2.2.2.2.2.2 ho1) (cwV 1 X.2.2.2.2.1 gX8_asks_X8_isChild rfl rfl rfl (by decide +kernel) ⟨Nat.le_of_ble_eq_true rfl, Nat.le_of_ble_eq_true rfl⟩) rfl rfl (Nat.le_of_ble_eq_true rfl) dX8_asks_2 ?_
  refine j_if_ne (tgt := 10) X dX8_asks_5 (by decide) (fun c => ?_) (fun c => ?_)
  · replace hf := f_t c hf
    refine j_aload_n X 0 dX8_asks_10 rfl rfl ?_
    refine j_iconst X (v := (nI 0)) (by decide) dX8_asks_11 ?_
    obtain ⟨w2, ew2, hf⟩ := f_lt hf
    refine j_put (ref := "ProxyVersionsModel") (index := 116)  X oMo inX8_asks_X8 tyX8_ok nmX8 rfl 8 (by decide) (List.mem_of_getElem? (i := 1) rfl) rfl rfl rfl (Nat.le_of_ble_eq_true rfl) rfl dX8_asks_12 ew2 ?_
    refine j_iconst X (v := (nI 0)) (by decide) dX8_asks_15 ?_
    refine j_istore_n (lv' := [(0, .ref (ad 0)), (1, .int x1), (2, .int (nI 0))]) X dX8_asks_16 rfl (by decide) rfl ?_
    refine j_iconst X (v := (nI 1)) (by decide) dX8_asks_17 ?_
    refine j_istore_n (lv' := [(0, .ref (ad 0)), (1, .int x1), (2, .int (nI 0)), (3, .int (nI 1))]) X dX8_asks_18 rfl (by decide) rfl ?_
    refine t_X8_asks_L19 X Y ?_ _ _ _ _ hf
    intro x2_3 w4 hf
    refine j_aload_n X 0 dX8_asks_69 rfl rfl ?_
    refine j_get (ref := "ProxyVersionsModel") (index := 116) (v := .int (w4 0 8)) X oMo inX8_asks_X8 rfl 8 (by decide) (List.mem_of_getElem? (i := 1) rfl) rfl rfl dX8_asks_70 ?_
    refine j_if_ne (tgt := 81) X dX8_asks_73 (by decide) (fun c => ?_) (fun c => ?_)
    · replace hf := f_t c hf
      refine j_iload_n X 1 dX8_asks_81 rfl rfl ?_
      exact j_iret X Y (f_p1 hf) (f_p2 hf) dX8_asks_82
    replace hf := f_fn c hf
    refine j_bipush X (v := (-9 : Int32)) (by decide) dX8_asks_76 ?_
    refine j_goto (tgt := 82) X dX8_asks_78 (by decide) ?_
    exact j_iret X Y (f_p1 hf) (f_p2 hf) dX8_asks_82
  replace hf := f_fn c hf
  refine j_iconst X (v := (-1 : Int32)) (by decide) dX8_asks_8 ?_
  exact j_iret X Y (f_p1 hf) (f_p2 hf) dX8_asks_9
abbrev rmX8_write : Room := { frames := 6, cells := 0, slots := 0, locals := 144 }
set_option maxRecDepth 100000 in
set_option maxHeartbeats 4000000 in
theorem c_X8_write (hI : Inj 8 ad) {x1 : Int32} {w : Wd} {out : Int32 × Wd} (hf : m_X8_write x1 w = some out) : Met l yX8_write wsX8_write rmX8_write (va_Pc [.ref (ad 0), .int x1] (PW D (tR cI) 8 ad (cellR cI ad) w)) (QWi D 8 ad (cellR cI ad) out.1 out.2) 0 0 (AW 8 ad) := by
  refine mk_met (maxL := 2) (ret := (some .int)) RX8 hI (by decide) rfl rfl (Nat.le_of_ble_eq_true rfl) rfl rfl (fun p e s m args below meth c X Y => ?_)
  unfold m_X8_write at hf
  refine j_aload_n X 0 dX8_write_0 rfl rfl ?_
  obtain ⟨o1, ho1, hf⟩ := f_bd hf
  refine j_callVv X oMo rfl rfl [] (c_X8_hold X.2.2.2.2.2.2.2 ho1) (cwV 0 X.2.2.2.2.1 gX8_write_X8_hold rfl rfl rfl (by decide +kernel) ⟨Nat.le_of_ble_eq_true rfl, Nat.le_of_ble_eq_true rfl⟩) rfl rfl (Nat.le_of_ble_eq_true rfl) dX8_write_1 ?_
  refine j_aload_n X 0 dX8_write_4 rfl rfl ?_
  refine j_aload_n X 0 dX8_write_5 rfl rfl ?_
  refine j_iload_n X 1 dX8_write_6 rfl rfl ?_
  obtain ⟨o2, ho2, hf⟩ := f_bd hf
  refine j_callVi X oMo rfl rfl [.int x1] (c_X8_makes X.2.2.2.2.2.2.2 ho2) (cwV 1 X.2.2.2.2.1 gX8_write_X8_makes rfl rfl rfl (by decide +kernel) ⟨Nat.le_of_ble_eq_true rfl, Nat.le_of_ble_eq_true rfl⟩) rfl rfl (Nat.le_of_ble_eq_true rfl) dX8_write_7 ?_
  obtain ⟨o3, ho3, hf⟩ := f_bd hf
  refine j_callVi X oMo rfl rfl [.int o2.1] (c_X8_closes X.2.2.2.2.2.2.2 ho3) (cwV 1 X.2.2.2.2.1 gX8_write_X8_closes rfl rfl rfl (by decide +kernel) ⟨Nat.le_of_ble_eq_true rfl, Nat.le_of_ble_eq_true rfl⟩) rfl rfl (Nat.le_of_ble_eq_true rfl) dX8_write_10 ?_
  exact j_iret X Y (f_p1 hf) (f_p2 hf) dX8_write_13
abbrev rmX8_cause : Room := { frames := 3, cells := 0, slots := 0, locals := 64 }
set_option maxRecDepth 100000 in
set_option maxHeartbeats 4000000 in
theorem c_X8_cause (hI : Inj 8 ad) {x1 : Int32} {x2 : Int32} {x3 : Int32} {w : Wd} {out : Int32} (hf : m_X8_cause x1 x2 x3 w = some out) : Met l yX8_cause wsX8_cause rmX8_cause (va_Pc [.ref (ad 0), .int x1, .int x2, .int x3] (PW D (tR cI) 8 ad (cellR cI ad) w)) (QWi D 8 ad (cellR cI ad) out w) 0 0 (AW 8 ad) := by
  refine mk_met (maxL := 4) (ret := (some .int)) RX8 hI (by decide) rfl rfl (Nat.le_of_ble_eq_true rfl) rfl rfl (fun p e s m args below meth c X Y => ?_)
  unfold m_X8_cause at hf
  refine j_aload_n X 0 dX8_cause_0 rfl rfl ?_
  refine j_iload_n X 1 dX8_cause_1 rfl rfl ?_
  refine j_iload_n X 2 dX8_cause_2 rfl rfl ?_
  obtain ⟨o1, ho1, hf⟩ := f_bd hf
  refine j_callVi X oMo rfl rfl [.int x1, .int x2] (c_X8_isUpdate X.2.2.2.2.2.2.2 ho1) (cwV 2 X.2.2.2.2.1 gX8_cause_X8_isUpdate rfl rfl rfl (by decide +kernel) ⟨Nat.le_of_ble_eq_true rfl, Nat.le_of_ble_eq_true rfl⟩) rfl rfl (Nat.le_of_ble_eq_true rfl) dX8_cause_3 ?_
  refine j_if_eq (tgt := 26) X dX8_cause_6 (by decide) (fun c => ?_) (fun c => ?_)
  · replace hf := f_t c hf
    refine j_iconst X (v := (-1 : Int32)) (by decide) dX8_cause_26 ?_
    exact j_iret X Y (f_s hf) rfl dX8_cause_27
  replace hf := f_f c hf
  refine j_iload_n X 3 dX8_cause_9 rfl rfl ?_
  obtain ⟨o2, ho2, hf⟩ := f_bd hf
  refine j_callSi X [.int x3] (c_X8_isOrigin X.2.2.2.2.2.2.2 ho2) (va_cwS 1 X.2.2.2.2.1 gX8_cause_X8_isOrigin rfl rfl rfl (by decide +kernel) ⟨Nat.le_of_ble_eq_true rfl, Nat.le_of_ble_eq_true rfl⟩) rfl rfl (Nat.le_of_ble_eq_true rfl) dX8_cause_10 ?_
  refine j_if_eq (tgt := 26) X dX8_cause_13 (by decide) (fun c => ?_) (fun c => ?_)
  · replace hf := f_t c hf
    refine j_iconst X (v := (-1 : Int32)) (by decide) dX8_cause_26 ?_
    exact j_iret X Y (f_s hf) rfl dX8_cause_27
  replace hf := f_f c hf
  refine j_aload_n X 0 dX8_cause_16 rfl rfl ?_
  refine j_iload_n X 1 dX8_cause_17 rfl rfl ?_
  refine j_iload_n X 2 dX8_cause_18 rfl rfl ?_
  refine j_iload_n X 3 dX8_cause_19 rfl rfl ?_
  obtain ⟨o3, ho3, hf⟩ := f_bd hf
  refine j_callVi X oMo rfl rfl [.int x1, .int x2, .int x3] (c_X8_causeOf X.2.2.2.2.2.2.2 ho3) (cwV 3 X.2.2.2.2.1 gX8_cause_X8_causeOf rfl rfl rfl (by decide +kernel) ⟨Nat.le_of_ble_eq_true rfl, Nat.le_of_ble_eq_true rfl⟩) rfl rfl (Nat.le_of_ble_eq_true rfl) dX8_cause_20 ?_
  refine j_goto (tgt := 27) X dX8_cause_23 (by decide) ?_
  exact j_iret X Y (f_s hf) rfl dX8_cause_27
abbrev rmX8_deliver : Room := { frames := 7, cells := 0, slots := 0, locals := 176 }
set_option maxRecDepth 100000 in
set_option maxHeartbeats 4000000 in
theorem c_X8_deliver (hI : Inj 8 ad) {x1 : Int32} {x2 : Int32} {x3 : Int32} {w : Wd} {out : Int32 × Wd} (hf : m_X8_deliver x1 x2 x3 w = some out) : Met l yX8_deliver wsX8_deliver rmX8_deliver (va_Pc [.ref (ad 0), .int x1, .int x2, .int x3] (PW D (tR cI) 8 ad (cellR cI ad) w)) (QWi D 8 ad (cellR cI ad) out.1 out.2) 0 0 (AW 8 ad) := by
  refine mk_met (maxL := 4) (ret := (some .int)) RX8 hI (by decide) rfl rfl (Nat.le_of_ble_eq_true rfl) rfl rfl (fun p e s m args below meth c X Y => ?_)
  unfold m_X8_deliver at hf
  refine j_aload_n X 0 dX8_deliver_0 rfl rfl ?_
  obtain ⟨o1, ho1, hf⟩ := f_bd hf
  refine j_callVv X oMo rfl rfl [] (c_X8_hold X.2.2.2.2.2.2.2 ho1) (cwV 0 X.2.2.2.2.1 gX8_deliver_X8_hold rfl rfl rfl (by decide +kernel) ⟨Nat.le_of_ble_eq_true rfl, Nat.le_of_ble_eq_true rfl⟩) rfl rfl (Nat.le_of_ble_eq_true rfl) dX8_deliver_1 ?_
  refine j_aload_n X 0 dX8_deliver_4 rfl rfl ?_
  refine j_aload_n X 0 dX8_deliver_5 rfl rfl ?_
  refine j_iload_n X 1 dX8_deliver_6 rfl rfl ?_
  refine j_iload_n X 2 dX8_deliver_7 rfl rfl ?_
  refine j_iload_n X 3 dX8_deliver_8 rfl rfl ?_
  obtain ⟨o2, ho2, hf⟩ := f_bd hf
  refine j_callVi X oMo rfl rfl [.int x1, .int x2, .int x3] (c_X8_delivers X.2.2.2.2.2.2.2 ho2) (cwV 3 X.2.2.2.2.1 gX8_deliver_X8_delivers rfl rfl rfl (by decide +kernel) ⟨Nat.le_of_ble_eq_true rfl, Nat.le_of_ble_eq_true rfl⟩) rfl rfl (Nat.le_of_ble_eq_true rfl) dX8_deliver_9 ?_
  obtain ⟨o3, ho3, hf⟩ := f_bd hf
  refine j_callVi X oMo rfl rfl [.int o2.1] (c_X8_closes X.2.2.2.2.2.2.2 ho3) (cwV 1 X.2.2.2.2.1 gX8_deliver_X8_closes rfl rfl rfl (by decide +kernel) ⟨Nat.le_of_ble_eq_true rfl, Nat.le_of_ble_eq_true rfl⟩) rfl rfl (Nat.le_of_ble_eq_true rfl) dX8_deliver_12 ?_
  exact j_iret X Y (f_p1 hf) (f_p2 hf) dX8_deliver_15
abbrev rmX8_lose : Room := { frames := 4, cells := 0, slots := 0, locals := 91 }
set_option maxRecDepth 100000 in
set_option maxHeartbeats 4000000 in
theorem c_X8_lose (hI : Inj 8 ad) {x1 : Int32} {x2 : Int32} {x3 : Int32} {w : Wd} {out : Int32 × Wd} (hf : m_X8_lose x1 x2 x3 w = some out) : Met l yX8_lose wsX8_lose rmX8_lose (va_Pc [.ref (ad 0), .int x1, .int x2, .int x3] (PW D (tR cI) 8 ad (cellR cI ad) w)) (QWi D 8 ad (cellR cI ad) out.1 out.2) 0 0 (AW 8 ad) := by
  refine mk_met (maxL := 4) (ret := (some .int)) RX8 hI (by decide) rfl rfl (Nat.le_of_ble_eq_true rfl) rfl rfl (fun p e s m args below meth c X Y => ?_)
  unfold m_X8_lose at hf
  refine j_aload_n X 0 dX8_lose_0 rfl rfl ?_
  obtain ⟨o1, ho1, hf⟩ := f_bd hf
  refine j_callVv X oMo rfl rfl [] (c_X8_hold X.2.2.2.2.2.2.2 ho1) (cwV 0 X.2.2.2.2.1 gX8_lose_X8_hold rfl rfl rfl (by decide +kernel) ⟨Nat.le_of_ble_eq_true rfl, Nat.le_of_ble_eq_true rfl⟩) rfl rfl (Nat.le_of_ble_eq_true rfl) dX8_lose_1 ?_
  refine j_aload_n X 0 dX8_lose_4 rfl rfl ?_
  refine j_aload_n X 0 dX8_lose_5 rfl rfl ?_
  refine j_iload_n X 1 dX8_lose_6 rfl rfl ?_
  refine j_iload_n X 2 dX8_lose_7 rfl rfl ?_
  refine j_iload_n X 3 dX8_lose_8 rfl rfl ?_
  obtain ⟨o2, ho2, hf⟩ := f_bd hf
  refine j_callVi X oMo rfl rfl [.int x1, .int x2, .int x3] (c_X8_loses X.2.2.2.2.2.2.2 ho2) (cwV 3 X.2.2.2.2.1 gX8_lose_X8_loses rfl rfl rfl (by decide +kernel) ⟨Nat.le_of_ble_eq_true rfl, Nat.le_of_ble_eq_true rfl⟩) rfl rfl (Nat.le_of_ble_eq_true rfl) dX8_lose_9 ?_
  obtain ⟨o3, ho3, hf⟩ := f_bd hf
  refine j_callVi X oMo rfl rfl [.int o2.1] (c_X8_closes X.2.2.2.2.2.2.2 ho3) (cwV 1 X.2.2.2.2.1 gX8_lose_X8_closes rfl rfl rfl (by decide +kernel) ⟨Nat.le_of_ble_eq_true rfl, Nat.le_of_ble_eq_true rfl⟩) rfl rfl (Nat.le_of_ble_eq_true rfl) dX8_lose_12 ?_
  exact j_iret X Y (f_p1 hf) (f_p2 hf) dX8_lose_15
abbrev rmX8_queued : Room := { frames := 3, cells := 0, slots := 0, locals := 65 }
theorem inX8_queued_X8 : ∀ w ∈ wsX80, w ∈ wsX8_queued := fun _ h => List.mem_cons_of_mem _ (List.mem_append_right _ h)
set_option maxRecDepth 100000 in
set_option maxHeartbeats 4000000 in
theorem c_X8_queued (hI : Inj 8 ad) {x1 : Int32} {x2 : Int32} {x3 : Int32} {w : Wd} {out : Int32} (hf : m_X8_queued x1 x2 x3 w = some out) : Met l yX8_queued wsX8_queued rmX8_queued (va_Pc [.ref (ad 0), .int x1, .int x2, .int x3] (PW D (tR cI) 8 ad (cellR cI ad) w)) (QWi D 8 ad (cellR cI ad) out w) 0 0 (AW 8 ad) := by
  refine mk_met (maxL := 5) (ret := (some .int)) RX8 hI (by decide) rfl rfl (Nat.le_of_ble_eq_true rfl) rfl rfl (fun p e s m args below meth c X Y => ?_)
  unfold m_X8_queued at hf
  refine j_aload_n X 0 dX8_queued_0 rfl rfl ?_
  refine j_iload_n X 1 dX8_queued_1 rfl rfl ?_
  refine j_iload_n X 2 dX8_queued_2 rfl rfl ?_
  obtain ⟨o1, ho1, hf⟩ := f_bd hf
  refine j_callVi X oMo rfl rfl [.int x1, .int x2] (c_X8_isQueue X.2.2.2.2.2.2.2 ho1) (cwV 2 X.2.2.2.2.1 gX8_queued_X8_isQueue rfl rfl rfl (by decide +kernel) ⟨Nat.le_of_ble_eq_true rfl, Nat.le_of_ble_eq_true rfl⟩) rfl rfl (Nat.le_of_ble_eq_true rfl) dX8_queued_3 ?_
  refine j_if_eq (tgt := 14) X dX8_queued_6 (by decide) (fun c => ?_) (fun c => ?_)
  · replace hf := f_t c hf
    refine j_iconst X (v := (-1 : Int32)) (by decide) dX8_queued_14 ?_
    exact j_iret X Y (f_s hf) rfl dX8_queued_15
  replace hf := f_f c hf
  refine j_iload_n X 3 dX8_queued_9 rfl rfl ?_
  refine j_iconst X (v := (-1 : Int32)) (by decide) dX8_queued_10 ?_
  refine j_icmp_ge (tgt := 16) X dX8_queued_11 (by decide) (fun c => ?_) (fun c => ?_)
  · replace hf := f_t c hf
    refine j_iload_n X 1 dX8_queued_16 rfl rfl ?_
    refine j_iload_n X 2 dX8_queued_17 rfl rfl ?_
    obtain ⟨o2, ho2, hf⟩ := f_bd hf
    refine j_callSi X [.int x1, .int x2] (c_X8_queueOf X.2.2.2.2.2.2.2 ho2) (va_cwS 2 X.2.2.2.2.1 gX8_queued_X8_queueOf rfl rfl rfl (by decide +kernel) ⟨Nat.le_of_ble_eq_true rfl, Nat.le_of_ble_eq_true rfl⟩) rfl rfl (Nat.le_of_ble_eq_true rfl) dX8_queued_18 ?_
    refine j_istore (lv' := [(0, .ref (ad 0)), (1, .int x1), (2, .int x2), (3, .int x3), (4, .int o2)]) X dX8_queued_21 (by decide) rfl ?_
    refine j_iload_n X 3 dX8_queued_23 rfl rfl ?_
    refine j_if_ge (tgt := 37) X dX8_queued_24 (by decide) (fun c => ?_) (fun c => ?_)
    · replace hf := f_t c hf
      refine j_iload_n X 3 dX8_queued_37 rfl rfl ?_
      refine j_aload_n X 0 dX8_queued_38 rfl rfl ?_
      refine j_get (ref := "ProxyVersionsModel") (index := 7) (v := .ref (ad 1)) X oMo inX8_queued_X8 rfl 0 (by decide) (List.mem_of_getElem? (i := 1) rfl) rfl rfl dX8_queued_39 ?_
      refine j_iload X 4 dX8_queued_42 rfl ?_
      obtain ⟨hi3, hf⟩ := f_c hf
      refine j_iald X 0 rfl r1 hi3 dX8_queued_44 ?_
      refine j_icmp_ge (tgt := 62) X dX8_queued_45 (by decide) (fun c => ?_) (fun c => ?_)
      · replace hf := f_t c hf
        refine j_bipush X (v := (-9 : Int32)) (by decide) dX8_queued_62 ?_
        exact j_iret X Y (f_s hf) rfl dX8_queued_64
      replace hf := f_f c hf
      refine j_aload_n X 0 dX8_queued_48 rfl rfl ?_
      refine j_get (ref := "ProxyVersionsModel") (index := 7) (v := .ref (ad 1)) X oMo inX8_queued_X8 rfl 0 (by decide) (List.mem_of_getElem? (i := 1) rfl) rfl rfl dX8_queued_49 ?_
      refine j_iload X 4 dX8_queued_52 rfl ?_
      refine j_iconst X (v := (nI 1)) (by decide) dX8_queued_54 ?_
      refine j_iadd X dX8_queued_55 ?_
      refine j_iload_n X 3 dX8_queued_56 rfl rfl ?_
      refine j_iadd X dX8_queued_57 ?_
      obtain ⟨hi4, hf⟩ := f_c hf
      refine j_iald X 0 rfl r1 hi4 dX8_queued_58 ?_
      refine j_goto (tgt := 64) X dX8_queued_59 (by decide) ?_
      exact j_iret X Y (f_s hf) rfl dX8_queued_64
    replace hf := f_f c hf
    refine j_aload_n X 0 dX8_queued_27 rfl rfl ?_
    refine j_get (ref := "ProxyVersionsModel") (index := 7) (v := .ref (ad 1)) X oMo inX8_queued_X8 rfl 0 (by decide) (List.mem_of_getElem? (i := 1) rfl) rfl rfl dX8_queued_28 ?_
    refine j_iload X 4 dX8_queued_31 rfl ?_
    obtain ⟨hi5, hf⟩ := f_c hf
    refine j_iald X 0 rfl r1 hi5 dX8_queued_33 ?_
    refine j_goto (tgt := 64) X dX8_queued_34 (by decide) ?_
    exact j_iret X Y (f_s hf) rfl dX8_queued_64
  replace hf := f_f c hf
  refine j_iconst X (v := (-1 : Int32)) (by decide) dX8_queued_14 ?_
  exact j_iret X Y (f_s hf) rfl dX8_queued_15
abbrev rmX8_bound : Room := { frames := 2, cells := 0, slots := 0, locals := 47 }
set_option maxRecDepth 100000 in
set_option maxHeartbeats 4000000 in
theorem c_X8_bound (hI : Inj 8 ad) {x1 : Int32} {x2 : Int32} {w : Wd} {out : Int32} (hf : m_X8_bound x1 x2 w = some out) : Met l yX8_bound wsX8_bound rmX8_bound (va_Pc [.ref (ad 0), .int x1, .int x2] (PW D (tR cI) 8 ad (cellR cI ad) w)) (QWi D 8 ad (cellR cI ad) out w) 0 0 (AW 8 ad) := by
  refine mk_met (maxL := 3) (ret := (some .int)) RX8 hI (by decide) rfl rfl (Nat.le_of_ble_eq_true rfl) rfl rfl (fun p e s m args below meth c X Y => ?_)
  unfold m_X8_bound at hf
  refine j_aload_n X 0 dX8_bound_0 rfl rfl ?_
  refine j_iload_n X 1 dX8_bound_1 rfl rfl ?_
  obtain ⟨o1, ho1, hf⟩ := f_bd hf
  refine j_callVi X oMo rfl rfl [.int x1] (c_X8_isProxy X.2.2.2.2.2.2.2 ho1) (cwV 1 X.2.2.2.2.1 gX8_bound_X8_isProxy rfl rfl rfl (by decide +kernel) ⟨Nat.le_of_ble_eq_true rfl, Nat.le_of_ble_eq_true rfl⟩) rfl rfl (Nat.le_of_ble_eq_true rfl) dX8_bound_2 ?_
  refine j_if_eq (tgt := 24) X dX8_bound_5 (by decide) (fun c => ?_) (fun c => ?_)
  · replace hf := f_t c hf
    refine j_iconst X (v := (-1 : Int32)) (by decide) dX8_bound_24 ?_
    exact j_iret X Y (f_s hf) rfl dX8_bound_25
  replace hf := f_f c hf
  refine j_iload_n X 2 dX8_bound_8 rfl rfl ?_
  obtain ⟨o2, ho2, hf⟩ := f_bd hf
  refine j_callSi X [.int x2] (c_X8_isOrigin X.2.2.2.2.2.2.2 ho2) (va_cwS 1 X.2.2.2.2.1 gX8_bound_X8_isOrigin rfl rfl rfl (by decide +kernel) ⟨Nat.le_of_ble_eq_true rfl, Nat.le_of_ble_eq_true rfl⟩) rfl rfl (Nat.le_of_ble_eq_true rfl) dX8_bound_9 ?_
  refine j_if_eq (tgt := 24) X dX8_bound_12 (by decide) (fun c => ?_) (fun c => ?_)
  · replace hf := f_t c hf
    refine j_iconst X (v := (-1 : Int32)) (by decide) dX8_bound_24 ?_
    exact j_iret X Y (f_s hf) rfl dX8_bound_25
  replace hf := f_f c hf
  refine j_aload_n X 0 dX8_bound_15 rfl rfl ?_
  refine j_iload_n X 1 dX8_bound_16 rfl rfl ?_
  refine j_iload_n X 2 dX8_bound_17 rfl rfl ?_
  obtain ⟨o3, ho3, hf⟩ := f_bd hf
  refine j_callVi X oMo rfl rfl [.int x1, .int x2] (c_X8_boundOf X.2.2.2.2.2.2.2 ho3) (cwV 2 X.2.2.2.2.1 gX8_bound_X8_boundOf rfl rfl rfl (by decide +kernel) ⟨Nat.le_of_ble_eq_true rfl, Nat.le_of_ble_eq_true rfl⟩) rfl rfl (Nat.le_of_ble_eq_true rfl) dX8_bound_18 ?_
  refine j_goto (tgt := 25) X dX8_bound_21 (by decide) ?_
  exact j_iret X Y (f_s hf) rfl dX8_bound_25
abbrev rmX8_exception : Room := { frames := 2, cells := 0, slots := 0, locals := 47 }
set_option maxRecDepth 100000 in
set_option maxHeartbeats 4000000 in
theorem t_X8_exception_j76 (X : CX p rmX8_exception s m args c cX8_exception 7 RX8 wsX8_exception D (tR cI) 8 ad) (Y : RX meth (some .int)) {x1 : Int32} {x2 : Int32} {x4 : Int32} {x5 : Int32} {x6 : Int32} {w : Wd} {kc : Int32 → Int32 → Option (Int32)} {out : Int32} (hf : m_X8_exception_j76 x1 x2 x4 x5 x6 w kc = some out) (hk_kc : ∀ (y4 : Int32) (y6 : Int32), kc y4 y6 = some out → WJ p l e rmX8_exception s m args below meth c (MQ below (QWi D 8 ad (cellR cI ad) out w) args s 0 0 (AW 8 ad)) 7 D 8 ad (cellR cI ad) w 47 [(0, .ref (ad 0)), (1, .int x1), (2, .int x2), (4, .int y4), (5, .int x5), (6, .int y6)] []) : WJ p l e rmX8_exception s m args below meth c (MQ below (QWi D 8 ad (cellR cI ad) out w) args s 0 0 (AW 8 ad)) 7 D 8 ad (cellR cI ad) w 76 [(0, .ref (ad 0)), (1, .int x1), (2, .int x2), (4, .int x4), (5, .int x5), (6, .int x6)] [] := by
  unfold m_X8_exception_j76 at hf
  refine j_iinc (v := (x6 + (nI 1))) (lv' := [(0, .ref (ad 0)), (1, .int x1), (2, .int x2), (4, .int x4), (5, .int x5), (6, .int (x6 + (nI 1)))]) X 5 dX8_exception_76 rfl rfl (by decide) rfl ?_
  refine j_goto (tgt := 47) X dX8_exception_79 (by decide) ?_
  exact hk_kc _ _ hf
set_option maxRecDepth 100000 in
set_option maxHeartbeats 4000000 in
theorem t_X8_exception_L47 (X : CX p rmX8_exception s m args c cX8_exception 7 RX8 wsX8_exception D (tR cI) 8 ad) (Y : RX meth (some .int)) {x1 : Int32} {x2 : Int32} {x5 : Int32} {w : Wd} {out : Int32} : ∀ (n : Nat) (x4 : Int32) (x6 : Int32), m_X8_exception_L47 x1 x2 x5 w n x4 x6 = some out → WJ p l e rmX8_exception s m args below meth c (MQ below (QWi D 8 ad (cellR cI ad) out w) args s 0 0 (AW 8 ad)) 7 D 8 ad (cellR cI ad) w 47 [(0, .ref (ad 0)), (1, .int x1), (2, .int x2), (4, .int x4), (5, .int x5), (6, .int x6)] [] := by
  intro n
  induction n with
  | zero => intro x4 x6 hf; exact f_n hf
  | succ n ih =>
    intro x4 x6 hf
    rw [m_X8_exception_L47] at hf
    refine j_iload X 5 dX8_exception_47 rfl ?_
    refine j_iload X 4 dX8_exception_49 rfl ?_
    refine j_icmp_ge (tgt := 82) X dX8_exception_51 (by decide) (fun c => ?_) (fun c => ?_)
    · replace hf := f_t c hf
      refine j_bipush X (v := (-9 : Int32)) (by decide) dX8_exception_82 ?_
      exact j_iret X Y (f_s hf) rfl dX8_exception_84
    replace hf := f_f c hf
    refine j_aload_n X 0 dX8_exception_54 rfl rfl ?_
    refine j_iload_n X 1 dX8_exception_55 rfl rfl ?_
    refine j_iload_n X 2 dX8_exception_56 rfl rfl ?_
    refine j_iload X 5 dX8_exception_57 rfl ?_
    obtain ⟨o1, ho1, hf⟩ := f_bd hf
    refine j_callVi X oMo rfl rfl [.int x1, .int x2, .int x6] (c_X8_knows X.2.2.2.2.2.2.2 ho1) (cwV 3 X.2.2.2.2.1 gX8_exception_X8_knows rfl rfl rfl (by decide +kernel) ⟨Nat.le_of_ble_eq_true rfl, Nat.le_of_ble_eq_true rfl⟩) rfl rfl (Nat.le_of_ble_eq_true rfl) dX8_exception_59 ?_
    refine j_if_ne (tgt := 76) X dX8_exception_62 (by decide) (fun c => ?_) (fun c => ?_)
    · replace hf := f_t c hf
      exact t_X8_exception_j76 X Y hf ih
    replace hf := f_fn c hf
    refine j_iload X 3 dX8_exception_65 rfl ?_
    refine j_if_ne (tgt := 73) X dX8_exception_67 (by decide) (fun c => ?_) (fun c => ?_)
    · replace hf := f_t c hf
      refine j_iinc (v := (x4 + (-1 : Int32))) (lv' := [(0, .ref (ad 0)), (1, .int x1), (2, .int x2), (4, .int (x4 + (-1 : Int32))), (5, .int x5), (6, .int x6)]) X 3 dX8_exception_73 rfl rfl (by decide) rfl ?_
      exact t_X8_exception_j76 X Y hf ih
    replace hf := f_fn c hf
    refine j_iload X 5 dX8_exception_70 rfl ?_
    exact j_iret X Y (f_s hf) rfl dX8_exception_72
set_option maxRecDepth 100000 in
set_option maxHeartbeats 4000000 in
theorem c_X8_exception (hI : Inj 8 ad) {x1 : Int32} {x2 : Int32} {x3 : Int32} {w : Wd} {out : Int32} (hf : m_X8_exception x1 x2 x3 w = some out) : Met l yX8_exception wsX8_exception rmX8_exception (va_Pc [.ref (ad 0), .int x1, .int x2, .int x3] (PW D (tR cI) 8 ad (cellR cI ad) w)) (QWi D 8 ad (cellR cI ad) out w) 0 0 (AW 8 ad) := by
  refine mk_met (maxL := 7) (ret := (some .int)) RX8 hI (by decide) rfl rfl (Nat.le_of_ble_eq_true rfl) rfl rfl (fun p e s m args below meth c X Y => ?_)
  unfold m_X8_exception at hf
  refine j_aload_n X 0 dX8_exception_0 rfl rfl ?_
  refine j_iload_n X 1 dX8_exception_1 rfl rfl ?_
  obtain ⟨o1, ho1, hf⟩ := f_bd hf
  refine j_callVi X oMo rfl rfl [.int x1] (c_X8_isProxy X.2.2.2.2.2.2.2 ho1) (cwV 1 X.2.2.2.2.1 gX8_exception_X8_isProxy rfl rfl rfl (by decide +kernel) ⟨Nat.le_of_ble_eq_true rfl, Nat.le_of_ble_eq_true rfl⟩) rfl rfl (Nat.le_of_ble_eq_true rfl) dX8_exception_2 ?_
  refine j_if_eq (tgt := 20) X dX8_exception_5 (by decide) (fun c => ?_) (fun c => ?_)
  · replace hf := f_t c hf
    refine j_iconst X (v := (-1 : Int32)) (by decide) dX8_exception_20 ?_
    exact j_iret X Y (f_s hf) rfl dX8_exception_21
  replace hf := f_f c hf
  refine j_iload_n X 2 dX8_exception_8 rfl rfl ?_
  obtain ⟨o2, ho2, hf⟩ := f_bd hf
  refine j_callSi X [.int x2] (c_X8_isOrigin X.2.2.2.2.2.2.2 ho2) (va_cwS 1 X.2.2.2.2.1 gX8_exception_X8_isOrigin rfl rfl rfl (by decide +kernel) ⟨Nat.le_of_ble_eq_true rfl, Nat.le_of_ble_eq_true rfl⟩) rfl rfl (Nat.le_of_ble_eq_true rfl) dX8_exception_9 ?_
  refine j_if_eq (tgt := 20) X dX8_exception_12 (by decide) (fun c => ?_) (fun c => ?_)
  · replace hf := f_t c hf
    refine j_iconst X (v := (-1 : Int32)) (by decide) dX8_exception_20 ?_
    exact j_iret X Y (f_s hf) rfl dX8_exception_21
  replace hf := f_f c hf
  refine j_iload_n X 3 dX8_exception_15 rfl rfl ?_
  refine j_iconst X (v := (-1 : Int32)) (by decide) dX8_exception_16 ?_
  refine j_icmp_ge (tgt := 22) X dX8_exception_17 (by decide) (fun c => ?_) (fun c => ?_)
  · replace hf := f_t c hf
    refine j_iload_n X 3 dX8_exception_22 rfl rfl ?_
    refine j_if_ge (tgt := 33) X dX8_exception_23 (by decide) (fun c => ?_) (fun c => ?_)
    · replace hf := f_t c hf
      refine j_iload_n X 3 dX8_exception_33 rfl rfl ?_
      refine j_istore (lv' := [(0, .ref (ad 0)), (1, .int x1), (2, .int x2), (3, .int x3), (4, .int x3)]) X dX8_exception_34 (by decide) rfl ?_
      refine j_aload_n X 0 dX8_exception_36 rfl rfl ?_
      refine j_iload_n X 1 dX8_exception_37 rfl rfl ?_
      refine j_iload_n X 2 dX8_exception_38 rfl rfl ?_
      obtain ⟨o3, ho3, hf⟩ := f_bd hf
      refine j_callVi X oMo rfl rfl [.int x1, .int x2] (c_X8_boundOf X.2.2.2.2.2.2.2 ho3) (cwV 2 X.2.2.2.2.1 gX8_exception_X8_boundOf rfl rfl rfl (by decide +kernel) ⟨Nat.le_of_ble_eq_true rfl, Nat.le_of_ble_eq_true rfl⟩) rfl rfl (Nat.le_of_ble_eq_true rfl) dX8_exception_39 ?_
      refine j_istore (lv' := [(0, .ref (ad 0)), (1, .int x1), (2, .int x2), (3, .int x3), (4, .int x3), (5, .int o3)]) X dX8_exception_42 (by decide) rfl ?_
      refine j_iconst X (v := (nI 1)) (by decide) dX8_exception_44 ?_
      refine j_istore (lv' := [(0, .ref (ad 0)), (1, .int x1), (2, .int x2), (3, .int x3), (4, .int x3), (5, .int o3), (6, .int (nI 1))]) X dX8_exception_45 (by decide) rfl ?_
      refine j_sub [0, 1, 2, 4, 5, 6] rfl ?_
      refine t_X8_exception_L47 X Y _ _ _ hf
    replace hf := f_f c hf
    refine j_aload_n X 0 dX8_exception_26 rfl rfl ?_
    refine j_iload_n X 1 dX8_exception_27 rfl rfl ?_
    refine j_iload_n X 2 dX8_exception_28 rfl rfl ?_
    obtain ⟨o4, ho4, hf⟩ := f_bd hf
    refine j_callVi X oMo rfl rfl [.int x1, .int x2] (c_X8_rangesOf X.2.2.2.2.2.2.2 ho4) (cwV 2 X.2.2.2.2.1 gX8_exception_X8_rangesOf rfl rfl rfl (by decide +kernel) ⟨Nat.le_of_ble_eq_true rfl, Nat.le_of_ble_eq_true rfl⟩) rfl rfl (Nat.le_of_ble_eq_true rfl) dX8_exception_29 ?_
    exact j_iret X Y (f_s hf) rfl dX8_exception_32
  replace hf := f_f c hf
  refine j_iconst X (v := (-1 : Int32)) (by decide) dX8_exception_20 ?_
  exact j_iret X Y (f_s hf) rfl dX8_exception_21
abbrev rmX8_served : Room := { frames := 3, cells := 0, slots := 0, locals := 71 }
theorem inX8_served_X8 : ∀ w ∈ wsX80, w ∈ wsX8_served := fun _ h => List.mem_cons_of_mem _ (List.mem_append_right _ h)
set_option maxRecDepth 100000 in
set_option maxHeartbeats 4000000 in
theorem c_X8_served (hI : Inj 8 ad) {x1 : Int32} {x2 : Int32} {w : Wd} {out : Int32 × Wd} (hf : m_X8_served x1 x2 w = some out) : Met l yX8_served wsX8_served rmX8_served (va_Pc [.ref (ad 0), .int x1, .int x2] (PW D (tR cI) 8 ad (cellR cI ad) w)) (QWi D 8 ad (cellR cI ad) out.1 out.2) 0 0 (AW 8 ad) := by
  refine mk_met (maxL := 3) (ret := (some .int)) RX8 hI (by decide) rfl rfl (Nat.le_of_ble_eq_true rfl) rfl rfl (fun p e s m args below meth c X Y => ?_)
  unfold m_X8_served at hf
  refine j_aload_n X 0 dX8_served_0 rfl rfl ?_
  refine j_iload_n X 1 dX8_served_1 rfl rfl ?_
  obtain ⟨o1, ho1, hf⟩ := f_bd hf
  refine j_callVi X oMo rfl rfl [.int x1] (c_X8_isProxy X.2.2.2.2.2.2.2 ho1) (cwV 1 X.2.2.2.2.1 gX8_served_X8_isProxy rfl rfl rfl (by decide +kernel) ⟨Nat.le_of_ble_eq_true rfl, Nat.le_of_ble_eq_true rfl⟩) rfl rfl (Nat.le_of_ble_eq_true rfl) dX8_served_2 ?_
  refine j_if_eq (tgt := 15) X dX8_served_5 (by decide) (fun c => ?_) (fun c => ?_)
  · replace hf := f_t c hf
    refine j_iconst X (v := (-1 : Int32)) (by decide) dX8_served_15 ?_
    exact j_iret X Y (f_p1 hf) (f_p2 hf) dX8_served_16
  replace hf := f_f c hf
  refine j_iload_n X 2 dX8_served_8 rfl rfl ?_
  obtain ⟨o2, ho2, hf⟩ := f_bd hf
  refine j_callSi X [.int x2] (c_X8_isOrigin X.2.2.2.2.2.2.2 ho2) (va_cwS 1 X.2.2.2.2.1 gX8_served_X8_isOrigin rfl rfl rfl (by decide +kernel) ⟨Nat.le_of_ble_eq_true rfl, Nat.le_of_ble_eq_true rfl⟩) rfl rfl (Nat.le_of_ble_eq_true rfl) dX8_served_9 ?_
  refine j_if_ne (tgt := 17) X dX8_served_12 (by decide) (fun c => ?_) (fun c => ?_)
  · replace hf := f_t c hf
    refine j_aload_n X 0 dX8_served_17 rfl rfl ?_
    refine j_iload_n X 1 dX8_served_18 rfl rfl ?_
    obtain ⟨o3, ho3, hf⟩ := f_bd hf
    refine j_callVv X oMo rfl rfl [.int x1] (c_X8_serves X.2.2.2.2.2.2.2 ho3) (cwV 1 X.2.2.2.2.1 gX8_served_X8_serves rfl rfl rfl (by decide +kernel) ⟨Nat.le_of_ble_eq_true rfl, Nat.le_of_ble_eq_true rfl⟩) rfl rfl (Nat.le_of_ble_eq_true rfl) dX8_served_19 ?_
    refine j_aload_n X 0 dX8_served_22 rfl rfl ?_
    refine j_get (ref := "ProxyVersionsModel") (index := 22) (v := .ref (ad 5)) X oMo inX8_served_X8 rfl 6 (by decide) (List.mem_of_getElem? (i := 1) rfl) rfl rfl dX8_served_23 ?_
    refine j_iload_n X 2 dX8_served_26 rfl rfl ?_
    obtain ⟨hi4, hf⟩ := f_c hf
    refine j_iald X 0 rfl r5 hi4 dX8_served_27 ?_
    exact j_iret X Y (f_p1 hf) (f_p2 hf) dX8_served_28
  replace hf := f_fn c hf
  refine j_iconst X (v := (-1 : Int32)) (by decide) dX8_served_15 ?_
  exact j_iret X Y (f_p1 hf) (f_p2 hf) dX8_served_16
end WALK16
