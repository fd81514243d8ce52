/-! ===== the bytecode does what the model says (printed by wip/p27/tools/genL.py) ===== -/
section WALK71
variable {p : Program} {l : Launch} {e : Env} {s : State} {m : MethodId} {args : Array Value} {below : List Frame} {meth : Method} {c : Code} {D : va_G} {cI cL cS : ClassId} {ad : Nat → Nat} {aC ad0 : Nat → Nat} {N N0 : Nat} {len len0 : Nat → Nat} {cells slots : Nat}
abbrev rmL_keep : Room := { frames := 1, cells := 2, slots := 18, locals := 28 }
set_option maxRecDepth 100000 in
set_option maxHeartbeats 4000000 in
theorem t_L_keep_L61 (X : VX p s m args c cL_keep 13 RL wsL_keep D cI cL cS aC N0 ad0 len0 N ad len) (Y : RX meth none) (hL : LK N len) {q8 : Nat} {q10 : Nat} {x6 : Int32} {x7 : Int32} {x9 : Int32} {kx88 : Wd → Option (Wd)} {out : Wd} (hq8 : RW N len q8 4) (hq10 : RW N len q10 14) (hk_kx88 : ∀ (cells slots : Nat)  (v : Wd), cells + 0 ≤ 2 → slots + 0 ≤ 18 → kx88 v = some out → VJ p l e rmL_keep s m args below meth c (MQ below (QZv D N0 ad0 (cellL cI cL cS aC len0) out s.heap.size) args s 2 18 (AF N0 ad0 s.heap.size)) 13 D cI cL cS aC N0 ad0 N ad len cells slots v 88 [(0, .ref (ad 490)), (3, .ref (ad 495)), (6, .int x6), (7, .int x7), (8, .ref (ad q8)), (9, .int x9), (10, .ref (ad q10))] []) : ∀ (n : Nat) (cells slots : Nat) (x11 : Int32) (w : Wd), cells + (n * 0 + 0) ≤ 2 → slots + (n * 0 + 0) ≤ 18 → m_L_keep_L61 N q8 q10 x6 x7 x9 kx88 n x11 w = some out → VJ p l e rmL_keep s m args below meth c (MQ below (QZv D N0 ad0 (cellL cI cL cS aC len0) out s.heap.size) args s 2 18 (AF N0 ad0 s.heap.size)) 13 D cI cL cS aC N0 ad0 N ad len cells slots w 61 [(0, .ref (ad 490)), (3, .ref (ad 495)), (6, .int x6), (7, .int x7), (8, .ref (ad q8)), (9, .int x9), (10, .ref (ad q10)), (11, .int x11)] [] := by
  intro n
  induction n with
  | zero => intro cells slots x11 w hB1 hB2 hf; exact f_n hf
  | succ n ih =>
    intro cells slots x11 w hB1 hB2 hf
    rw [m_L_keep_L61] at hf
    have hN := hL.1
    refine v_iload X 7 dL_keep_61 rfl ?_
    refine v_iload X 5 dL_keep_63 rfl ?_
    refine v_icmp_ge (tgt := 88) X dL_keep_65 (by decide) (fun c => ?_) (fun c => ?_)
    · replace hf := f_t c hf
      refine v_sub [0, 1, 2, 3, 4, 5, 6] rfl ?_
      exact hk_kx88 _ _ _ (by omega) (by omega) hf
    replace hf := f_f c hf
    refine v_aload X 6 dL_keep_68 rfl ?_
    refine v_iload X 7 dL_keep_70 rfl ?_
    refine v_aload_n X 1 dL_keep_72 rfl rfl ?_
    refine v_iload X 3 dL_keep_73 rfl ?_
    refine v_iconst X (v := (nI 1)) (by decide) dL_keep_75 ?_
    refine v_iadd X dL_keep_76 ?_
    refine v_iload X 7 dL_keep_77 rfl ?_
    refine v_iadd X dL_keep_79 ?_
    obtain ⟨hi1, hf⟩ := f_c hf
    refine v_iald X (lk5 hL) hi1 dL_keep_80 ?_
    obtain ⟨hi2, hf⟩ := f_c hf
    obtain ⟨w3, ew3, hf⟩ := f_lt hf
    refine v_iast X hq10 hi2 dL_keep_81 ew3 ?_
    refine v_iinc (v := (x11 + (nI 1))) (lv' := [(0, .ref (ad 490)), (3, .ref (ad 495)), (6, .int x6), (7, .int x7), (8, .ref (ad q8)), (9, .int x9), (10, .ref (ad q10)), (11, .int (x11 + (nI 1)))]) X 7 dL_keep_82 rfl rfl (by decide) rfl ?_
    refine v_goto (tgt := 61) X dL_keep_85 (by decide) ?_
    exact ih _ _ _ _ (by omega) (by omega) hf
set_option maxRecDepth 100000 in
set_option maxHeartbeats 4000000 in
theorem t_L_keep_j212 {rk1 rk2 : Nat} (X : VX p s m args c cL_keep 13 RL wsL_keep D cI cL cS aC N0 ad0 len0 N ad len) (Y : RX meth none) (hL : LK N len) {q10 : Nat} {x7 : Int32} {x9 : Int32} {x11 : Int32} {x12 : Int32} {w : Wd} {kc : Int32 → Wd → Option (Wd)} {out : Wd} (hq10 : RW N len q10 14) (hB1 : cells + (0 + rk1) ≤ 2) (hB2 : slots + (0 + rk2) ≤ 18) (hX1 : 0 ≤ rk1) (hX2 : 0 ≤ rk2) (hf : m_L_keep_j212 N q10 x7 x9 x11 x12 w kc = some out) (hk_kc : ∀ (cells slots : Nat) (y12 : Int32) (v : Wd), cells + rk1 ≤ 2 → slots + rk2 ≤ 18 → kc y12 v = some out → VJ p l e rmL_keep s m args below meth c (MQ below (QZv D N0 ad0 (cellL cI cL cS aC len0) out s.heap.size) args s 2 18 (AF N0 ad0 s.heap.size)) 13 D cI cL cS aC N0 ad0 N ad len cells slots v 176 [(3, .ref (ad 495)), (7, .int x7), (9, .int x9), (10, .ref (ad q10)), (11, .int x11), (12, .int y12)] []) : VJ p l e rmL_keep s m args below meth c (MQ below (QZv D N0 ad0 (cellL cI cL cS aC len0) out s.heap.size) args s 2 18 (AF N0 ad0 s.heap.size)) 13 D cI cL cS aC N0 ad0 N ad len cells slots w 212 [(3, .ref (ad 495)), (7, .int x7), (9, .int x9), (10, .ref (ad q10)), (11, .int x11), (12, .int x12)] [] := by
  unfold m_L_keep_j212 at hf
  have hN := hL.1
  refine v_iinc (v := (x12 + (nI 1))) (lv' := [(3, .ref (ad 495)), (7, .int x7), (9, .int x9), (10, .ref (ad q10)), (11, .int x11), (12, .int (x12 + (nI 1)))]) X 5 dL_keep_212 rfl rfl (by decide) rfl ?_
  refine v_goto (tgt := 176) X dL_keep_215 (by decide) ?_
  exact hk_kc _ _ _ _ (by omega) (by omega) hf
set_option maxRecDepth 100000 in
set_option maxHeartbeats 4000000 in
theorem t_L_keep_L176 (X : VX p s m args c cL_keep 13 RL wsL_keep D cI cL cS aC N0 ad0 len0 N ad len) (Y : RX meth none) (hL : LK N len) {q10 : Nat} {x7 : Int32} {x9 : Int32} {x11 : Int32} {out : Wd} (hq10 : RW N len q10 14) : ∀ (n : Nat) (cells slots : Nat) (x12 : Int32) (w : Wd), cells + (n * 0 + 0) ≤ 2 → slots + (n * 0 + 0) ≤ 18 → m_L_keep_L176 N q10 x7 x9 x11 n x12 w = some out → VJ p l e rmL_keep s m args below meth c (MQ below (QZv D N0 ad0 (cellL cI cL cS aC len0) out s.heap.size) args s 2 18 (AF N0 ad0 s.heap.size)) 13 D cI cL cS aC N0 ad0 N ad len cells slots w 176 [(3, .ref (ad 495)), (7, .int x7), (9, .int x9), (10, .ref (ad q10)), (11, .int x11), (12, .int x12)] [] := by
  intro n
  induction n with
  | zero => intro cells slots x12 w hB1 hB2 hf; exact f_n hf
  | succ n ih =>
    intro cells slots x12 w hB1 hB2 hf
    rw [m_L_keep_L176] at hf
    have hN := hL.1
    refine v_iload X 5 dL_keep_176 rfl ?_
    refine v_iload X 2 dL_keep_178 rfl ?_
    refine v_icmp_ge (tgt := 218) X dL_keep_180 (by decide) (fun c => ?_) (fun c => ?_)
    · replace hf := f_t c hf
      exact v_vret X Y (by omega) (by omega) (f_s hf) dL_keep_218
    replace hf := f_f c hf
    refine v_iload X 5 dL_keep_183 rfl ?_
    refine v_iload X 4 dL_keep_185 rfl ?_
    refine v_icmp_eq (tgt := 212) X dL_keep_187 (by decide) (fun c => ?_) (fun c => ?_)
    · replace hf := f_t c hf
      exact t_L_keep_j212 (rk1 := (n * 0 + 0)) (rk2 := (n * 0 + 0)) X Y hL hq10 (by omega) (by omega) (by omega) (by omega) hf ih
    replace hf := f_f c hf
    refine v_aload_n X 0 dL_keep_190 rfl rfl ?_
    refine v_iload X 1 dL_keep_191 rfl ?_
    refine v_dup2 X rfl rfl dL_keep_193 ?_
    obtain ⟨hi1, hf⟩ := f_c hf
    refine v_iald X (lk5 hL) hi1 dL_keep_194 ?_
    refine v_iconst X (v := (nI 1)) (by decide) dL_keep_195 ?_
    refine v_iadd X dL_keep_196 ?_
    obtain ⟨hi2, hf⟩ := f_c hf
    obtain ⟨w3, ew3, hf⟩ := f_lt hf
    refine v_iast X (lk5 hL) hi2 dL_keep_197 ew3 ?_
    refine v_aload_n X 0 dL_keep_198 rfl rfl ?_
    refine v_iload X 1 dL_keep_199 rfl ?_
    refine v_aload_n X 0 dL_keep_201 rfl rfl ?_
    refine v_iload X 1 dL_keep_202 rfl ?_
    obtain ⟨hi4, hf⟩ := f_c hf
    refine v_iald X (lk5 hL) hi4 dL_keep_204 ?_
    refine v_iadd X dL_keep_205 ?_
    refine v_aload X 3 dL_keep_206 rfl ?_
    refine v_iload X 5 dL_keep_208 rfl ?_
    obtain ⟨hi5, hf⟩ := f_c hf
    refine v_iald X hq10 hi5 dL_keep_210 ?_
    obtain ⟨hi6, hf⟩ := f_c hf
    obtain ⟨w7, ew7, hf⟩ := f_lt hf
    refine v_iast X (lk5 hL) hi6 dL_keep_211 ew7 ?_
    exact t_L_keep_j212 (rk1 := (n * 0 + 0)) (rk2 := (n * 0 + 0)) X Y hL hq10 (by omega) (by omega) (by omega) (by omega) hf ih
set_option maxRecDepth 100000 in
set_option maxHeartbeats 4000000 in
theorem t_L_keep_j168 (X : VX p s m args c cL_keep 13 RL wsL_keep D cI cL cS aC N0 ad0 len0 N ad len) (Y : RX meth none) (hL : LK N len) {q10 : Nat} {x7 : Int32} {x9 : Int32} {x11 : Int32} {w : Wd} {out : Wd} (hq10 : RW N len q10 14) (hB1 : cells + 0 ≤ 2) (hB2 : slots + 0 ≤ 18) (hf : m_L_keep_j168 N q10 x7 x9 x11 w = some out) : VJ p l e rmL_keep s m args below meth c (MQ below (QZv D N0 ad0 (cellL cI cL cS aC len0) out s.heap.size) args s 2 18 (AF N0 ad0 s.heap.size)) 13 D cI cL cS aC N0 ad0 N ad len cells slots w 168 [(3, .ref (ad 495)), (7, .int x7), (9, .int x9), (10, .ref (ad q10)), (11, .int x11)] [] := by
  unfold m_L_keep_j168 at hf
  have hN := hL.1
  refine v_aload_n X 0 dL_keep_168 rfl rfl ?_
  refine v_iload X 1 dL_keep_169 rfl ?_
  refine v_iconst X (v := (nI 0)) (by decide) dL_keep_171 ?_
  obtain ⟨hi1, hf⟩ := f_c hf
  obtain ⟨w2, ew2, hf⟩ := f_lt hf
  refine v_iast X (lk5 hL) hi1 dL_keep_172 ew2 ?_
  refine v_iconst X (v := (nI 0)) (by decide) dL_keep_173 ?_
  refine v_istore (lv' := [(3, .ref (ad 495)), (7, .int x7), (9, .int x9), (10, .ref (ad q10)), (11, .int x11), (12, .int (nI 0))]) X dL_keep_174 (by decide) rfl ?_
  refine t_L_keep_L176 X Y hL hq10 _ _ _ _ _ ?_ ?_ hf
  · have hFU : FU * 0 = 0 := rfl; omega
  · have hFU : FU * 0 = 0 := rfl; omega
set_option maxRecDepth 100000 in
set_option maxHeartbeats 4000000 in
theorem t_L_keep_j152 {rk1 rk2 : Nat} (X : VX p s m args c cL_keep 13 RL wsL_keep D cI cL cS aC N0 ad0 len0 N ad len) (Y : RX meth none) (hL : LK N len) {q8 : Nat} {q10 : Nat} {x7 : Int32} {x9 : Int32} {x12 : Int32} {s0 : Int32} {w : Wd} {kc : Int32 → Int32 → Wd → Option (Wd)} {kx160 : Int32 → Wd → Option (Wd)} {out : Wd} (hq8 : RW N len q8 4) (hq10 : RW N len q10 14) (hB1 : cells + (0 + rk1) ≤ 2) (hB2 : slots + (0 + rk2) ≤ 18) (hX1 : 0 ≤ rk1) (hX2 : 0 ≤ rk2) (hf : m_L_keep_j152 N q8 q10 x7 x9 x12 s0 w kc kx160 = some out) (hk_kc : ∀ (cells slots : Nat) (y11 : Int32) (y12 : Int32) (v : Wd), cells + rk1 ≤ 2 → slots + rk2 ≤ 18 → kc y11 y12 v = some out → VJ p l e rmL_keep s m args below meth c (MQ below (QZv D N0 ad0 (cellL cI cL cS aC len0) out s.heap.size) args s 2 18 (AF N0 ad0 s.heap.size)) 13 D cI cL cS aC N0 ad0 N ad len cells slots v 118 [(0, .ref (ad 490)), (3, .ref (ad 495)), (7, .int x7), (8, .ref (ad q8)), (9, .int x9), (10, .ref (ad q10)), (11, .int y11), (12, .int y12)] []) (hk_kx160 : ∀ (cells slots : Nat) (y11 : Int32) (v : Wd), cells + 0 ≤ 2 → slots + 0 ≤ 18 → kx160 y11 v = some out → VJ p l e rmL_keep s m args below meth c (MQ below (QZv D N0 ad0 (cellL cI cL cS aC len0) out s.heap.size) args s 2 18 (AF N0 ad0 s.heap.size)) 13 D cI cL cS aC N0 ad0 N ad len cells slots v 160 [(0, .ref (ad 490)), (3, .ref (ad 495)), (7, .int x7), (9, .int x9), (10, .ref (ad q10)), (11, .int y11)] []) : VJ p l e rmL_keep s m args below meth c (MQ below (QZv D N0 ad0 (cellL cI cL cS aC len0) out s.heap.size) args s 2 18 (AF N0 ad0 s.heap.size)) 13 D cI cL cS aC N0 ad0 N ad len cells slots w 152 [(0, .ref (ad 490)), (3, .ref (ad 495)), (7, .int x7), (8, .ref (ad q8)), (9, .int x9), (10, .ref (ad q10)), (12, .int x12)] [.int s0] := by
  unfold m_L_keep_j152 at hf
  have hN := hL.1
  refine v_istore (lv' := [(0, .ref (ad 490)), (3, .ref (ad 495)), (7, .int x7), (8, .ref (ad q8)), (9, .int x9), (10, .ref (ad q10)), (11, .int s0), (12, .int x12)]) X dL_keep_152 (by decide) rfl ?_
  refine v_iinc (v := (x12 + (-1 : Int32))) (lv' := [(0, .ref (ad 490)), (3, .ref (ad 495)), (7, .int x7), (8, .ref (ad q8)), (9, .int x9), (10, .ref (ad q10)), (11, .int s0), (12, .int (x12 + (-1 : Int32)))]) X 7 dL_keep_154 rfl rfl (by decide) rfl ?_
  refine v_goto (tgt := 118) X dL_keep_157 (by decide) ?_
  exact hk_kc _ _ _ _ _ (by omega) (by omega) hf
set_option maxRecDepth 100000 in
set_option maxHeartbeats 4000000 in
theorem t_L_keep_L118 (X : VX p s m args c cL_keep 13 RL wsL_keep D cI cL cS aC N0 ad0 len0 N ad len) (Y : RX meth none) (hL : LK N len) {q8 : Nat} {q10 : Nat} {x7 : Int32} {x9 : Int32} {kx160 : Int32 → Wd → Option (Wd)} {out : Wd} (hq8 : RW N len q8 4) (hq10 : RW N len q10 14) (hk_kx160 : ∀ (cells slots : Nat) (y11 : Int32) (v : Wd), cells + 0 ≤ 2 → slots + 0 ≤ 18 → kx160 y11 v = some out → VJ p l e rmL_keep s m args below meth c (MQ below (QZv D N0 ad0 (cellL cI cL cS aC len0) out s.heap.size) args s 2 18 (AF N0 ad0 s.heap.size)) 13 D cI cL cS aC N0 ad0 N ad len cells slots v 160 [(0, .ref (ad 490)), (3, .ref (ad 495)), (7, .int x7), (9, .int x9), (10, .ref (ad q10)), (11, .int y11)] []) : ∀ (n : Nat) (cells slots : Nat) (x11 : Int32) (x12 : Int32) (w : Wd), cells + (n * 0 + 0) ≤ 2 → slots + (n * 0 + 0) ≤ 18 → m_L_keep_L118 N q8 q10 x7 x9 kx160 n x11 x12 w = some out → VJ p l e rmL_keep s m args below meth c (MQ below (QZv D N0 ad0 (cellL cI cL cS aC len0) out s.heap.size) args s 2 18 (AF N0 ad0 s.heap.size)) 13 D cI cL cS aC N0 ad0 N ad len cells slots w 118 [(0, .ref (ad 490)), (3, .ref (ad 495)), (7, .int x7), (8, .ref (ad q8)), (9, .int x9), (10, .ref (ad q10)), (11, .int x11), (12, .int x12)] [] := by
  intro n
  induction n with
  | zero => intro cells slots x11 x12 w hB1 hB2 hf; exact f_n hf
  | succ n ih =>
    intro cells slots x11 x12 w hB1 hB2 hf
    rw [m_L_keep_L118] at hf
    have hN := hL.1
    refine v_iload X 7 dL_keep_118 rfl ?_
    refine v_if_lt (tgt := 160) X dL_keep_120 (by decide) (fun c => ?_) (fun c => ?_)
    · replace hf := f_t c hf
      refine v_sub [0, 1, 2, 4, 5, 6] rfl ?_
      exact hk_kx160 _ _ _ _ (by omega) (by omega) hf
    replace hf := f_f c hf
    refine v_aload X 5 dL_keep_123 rfl ?_
    refine v_iload X 7 dL_keep_125 rfl ?_
    obtain ⟨hi1, hf⟩ := f_c hf
    refine v_iald X hq10 hi1 dL_keep_127 ?_
    refine v_bipush X (v := (nI 16)) (by decide) dL_keep_128 ?_
    refine v_irem X (by decide) dL_keep_130 ?_
    refine v_aload X 3 dL_keep_131 rfl ?_
    refine v_aload X 5 dL_keep_133 rfl ?_
    refine v_iload X 7 dL_keep_135 rfl ?_
    obtain ⟨hi2, hf⟩ := f_c hf
    refine v_iald X hq10 hi2 dL_keep_137 ?_
    refine v_bipush X (v := (nI 16)) (by decide) dL_keep_138 ?_
    refine v_idiv X (by decide) dL_keep_140 ?_
    obtain ⟨hi3, hf⟩ := f_c hf
    refine v_iald X hq8 hi3 dL_keep_141 ?_
    refine v_icmp_gt (tgt := 150) X dL_keep_142 (by decide) (fun c => ?_) (fun c => ?_)
    · replace hf := f_t c hf
      refine v_iload X 6 dL_keep_150 rfl ?_
      refine v_sub [0, 1, 2, 3, 4, 5, 7] rfl ?_
      exact t_L_keep_j152 (rk1 := (n * 0 + 0)) (rk2 := (n * 0 + 0)) X Y hL hq8 hq10 (by omega) (by omega) (by omega) (by omega) hf ih hk_kx160
    replace hf := f_f c hf
    refine v_iload X 7 dL_keep_145 rfl ?_
    refine v_goto (tgt := 152) X dL_keep_147 (by decide) ?_
    refine v_sub [0, 1, 2, 3, 4, 5, 7] rfl ?_
    exact t_L_keep_j152 (rk1 := (n * 0 + 0)) (rk2 := (n * 0 + 0)) X Y hL hq8 hq10 (by omega) (by omega) (by omega) (by omega) hf ih hk_kx160
set_option maxRecDepth 100000 in
set_option maxHeartbeats 4000000 in
theorem c_L_keep (hI : Inj N ad) (hA : AC aC N ad) (hL : LK N len) {x5 : Int32} {x6 : Int32} {w : Wd} {out : Wd} (hf : m_L_keep N x5 x6 w = some out) : ∀ sz : Nat, Met l yL_keep wsL_keep rmL_keep (va_Pc [.ref (ad 490), .ref (ad 491), .ref (ad 492), .ref (ad 495), .ref (ad 496), .int x5, .int x6] (PZ sz D (tC cI cL cS) N ad (cellL cI cL cS aC len) w)) (QZv D N ad (cellL cI cL cS aC len) out sz) 2 18 (AF N ad sz) := by
  intro sz
  refine mk_metZ (maxL := 13) (ret := none) RL hI hA hL.n490 (by decide) rfl rfl (Nat.le_of_ble_eq_true rfl) rfl rfl (fun p e s m args below meth c hsz X Y => ?_)
  subst hsz
  unfold m_L_keep at hf
  have hN := hL.1
  refine v_iload X 5 dL_keep_0 rfl ?_
  refine v_if_ne (tgt := 23) X dL_keep_2 (by decide) (fun c => ?_) (fun c => ?_)
  · replace hf := f_t c hf
    refine v_bipush X (v := (nI 13)) (by decide) dL_keep_23 ?_
    refine v_iload X 5 dL_keep_25 rfl ?_
    refine v_iconst X (v := (nI 1)) (by decide) dL_keep_27 ?_
    refine v_isub X dL_keep_28 ?_
    refine v_imul X dL_keep_29 ?_
    obtain ⟨x7_1, ex7_1, hf⟩ := f_lt hf
    refine v_top ex7_1 ?_
    refine v_istore (lv' := [(0, .ref (ad 490)), (1, .ref (ad 491)), (2, .ref (ad 492)), (3, .ref (ad 495)), (4, .ref (ad 496)), (5, .int x5), (6, .int x6), (7, .int x7_1)]) X dL_keep_30 (by decide) rfl ?_
    refine v_iconst X (v := (nI 4)) (by decide) dL_keep_32 ?_
    obtain ⟨w2, ew2, hf⟩ := f_lt hf
    refine v_newi X (List.mem_of_getElem? (i := 1) rfl) (n := nI 4) (N' := 4) (by decide) rfl (Nat.le_of_ble_eq_true rfl) (by omega) (by show _ ≤ 2; omega) (by show _ ≤ 18; omega) dL_keep_33 ew2 (fun ad X ha => ?_)
    rw [ha 490 (by omega), ha 491 (by omega), ha 492 (by omega), ha 495 (by omega), ha 496 (by omega)]
    have hw1 := RW.new (N := N) (len := len) (m := 4) (by omega)
    replace hL := hL.up (m := 4)
    refine v_astore (lv' := [(0, .ref (ad 490)), (1, .ref (ad 491)), (2, .ref (ad 492)), (3, .ref (ad 495)), (4, .ref (ad 496)), (5, .int x5), (6, .int x6), (7, .int x7_1), (8, .ref (ad N))]) X dL_keep_35 (by decide) rfl ?_
    refine v_aload_n X 1 dL_keep_37 rfl rfl ?_
    refine v_aload_n X 2 dL_keep_38 rfl rfl ?_
    refine v_iload X 5 dL_keep_39 rfl ?_
    refine v_aload X 8 dL_keep_41 rfl ?_
    obtain ⟨o3, ho3, hf⟩ := f_bd hf
    refine v_callSv X [.ref (ad 491), .ref (ad 492), .int x5, .ref (ad N)] (c_L_serve X.inj (RW.i (lk1 hL)) (RW.i (lk2 hL)) (RW.i hw1) ho3) (va_cwS 4 X.2.2.2.2.1 gL_keep_L_serve rfl rfl rfl (by decide +kernel) ⟨Nat.le_of_ble_eq_true rfl, Nat.le_of_ble_eq_true rfl⟩) rfl rfl (Nat.le_of_ble_eq_true rfl) ⟨by show _ ≤ 2; omega, by show _ ≤ 18; omega⟩ dL_keep_43 ?_
    refine v_aload_n X 3 dL_keep_46 rfl rfl ?_
    refine v_iload X 7 dL_keep_47 rfl ?_
    obtain ⟨hi4, hf⟩ := f_c hf
    refine v_iald X (lk5 hL) hi4 dL_keep_49 ?_
    obtain ⟨x9_5, ex9_5, hf⟩ := f_lt hf
    refine v_top ex9_5 ?_
    refine v_istore (lv' := [(0, .ref (ad 490)), (1, .ref (ad 491)), (2, .ref (ad 492)), (3, .ref (ad 495)), (4, .ref (ad 496)), (5, .int x5), (6, .int x6), (7, .int x7_1), (8, .ref (ad N)), (9, .int x9_5)]) X dL_keep_50 (by decide) rfl ?_
    refine v_bipush X (v := (nI 14)) (by decide) dL_keep_52 ?_
    obtain ⟨w6, ew6, hf⟩ := f_lt hf
    refine v_newi X (List.mem_of_getElem? (i := 1) rfl) (n := nI 14) (N' := 14) (by decide) rfl (Nat.le_of_ble_eq_true rfl) (by omega) (by show _ ≤ 2; omega) (by show _ ≤ 18; omega) dL_keep_54 ew6 (fun ad X ha => ?_)
    rw [ha 490 (by omega), ha 491 (by omega), ha 492 (by omega), ha 495 (by omega), ha 496 (by omega), ha N hw1.2.1]
    have hw2 := RW.new (N := (N + 1)) (len := (va_up len N 4)) (m := 14) (by omega)
    replace hL := hL.up (m := 14)
    replace hw1 := hw1.up (m := 14)
    refine v_astore (lv' := [(0, .ref (ad 490)), (1, .ref (ad 491)), (2, .ref (ad 492)), (3, .ref (ad 495)), (4, .ref (ad 496)), (5, .int x5), (6, .int x6), (7, .int x7_1), (8, .ref (ad N)), (9, .int x9_5), (10, .ref (ad (N + 1)))]) X dL_keep_56 (by decide) rfl ?_
    refine v_iconst X (v := (nI 0)) (by decide) dL_keep_58 ?_
    refine v_istore (lv' := [(0, .ref (ad 490)), (1, .ref (ad 491)), (2, .ref (ad 492)), (3, .ref (ad 495)), (4, .ref (ad 496)), (5, .int x5), (6, .int x6), (7, .int x7_1), (8, .ref (ad N)), (9, .int x9_5), (10, .ref (ad (N + 1))), (11, .int (nI 0))]) X dL_keep_59 (by decide) rfl ?_
    refine v_sub [0, 3, 6, 7, 8, 9, 10, 11] rfl ?_
    refine t_L_keep_L61 X Y hL hw1 hw2 ?_ _ _ _ _ _ ?_ ?_ hf
    · intro cells slots w7 hB1 hB2 hf
      refine v_aload X 6 dL_keep_88 rfl ?_
      refine v_iload X 5 dL_keep_90 rfl ?_
      refine v_iload X 2 dL_keep_92 rfl ?_
      obtain ⟨hi8, hf⟩ := f_c hf
      obtain ⟨w9, ew9, hf⟩ := f_lt hf
      refine v_iast X hw2 hi8 dL_keep_94 ew9 ?_
      refine v_iinc (v := (x9_5 + (nI 1))) (lv' := [(0, .ref (ad 490)), (3, .ref (ad 495)), (6, .int x6), (7, .int x7_1), (8, .ref (ad N)), (9, .int (x9_5 + (nI 1))), (10, .ref (ad (N + 1)))]) X 5 dL_keep_95 rfl rfl (by decide) rfl ?_
      refine v_iconst X (v := (-1 : Int32)) (by decide) dL_keep_98 ?_
      refine v_istore (lv' := [(0, .ref (ad 490)), (3, .ref (ad 495)), (6, .int x6), (7, .int x7_1), (8, .ref (ad N)), (9, .int (x9_5 + (nI 1))), (10, .ref (ad (N + 1))), (11, .int (-1 : Int32))]) X dL_keep_99 (by decide) rfl ?_
      refine v_iload X 5 dL_keep_101 rfl ?_
      refine v_aload_n X 0 dL_keep_103 rfl rfl ?_
      refine v_iconst X (v := (nI 2)) (by decide) dL_keep_104 ?_
      obtain ⟨hi10, hf⟩ := f_c hf
      refine v_iald X (lk0 hL) hi10 dL_keep_105 ?_
      refine v_icmp_le (tgt := 168) X dL_keep_106 (by decide) (fun c => ?_) (fun c => ?_)
      · replace hf := f_t c hf
        refine v_sub [1, 3, 5, 6, 7] rfl ?_
        exact t_L_keep_j168 X Y hL hw2 (by omega) (by omega) hf
      replace hf := f_f c hf
      refine v_iconst X (v := (nI 0)) (by decide) dL_keep_109 ?_
      refine v_istore (lv' := [(0, .ref (ad 490)), (3, .ref (ad 495)), (6, .int x6), (7, .int x7_1), (8, .ref (ad N)), (9, .int (x9_5 + (nI 1))), (10, .ref (ad (N + 1))), (11, .int (nI 0))]) X dL_keep_110 (by decide) rfl ?_
      refine v_iload X 5 dL_keep_112 rfl ?_
      refine v_iconst X (v := (nI 1)) (by decide) dL_keep_114 ?_
      refine v_isub X dL_keep_115 ?_
      obtain ⟨x12_11, ex12_11, hf⟩ := f_lt hf
      refine v_top ex12_11 ?_
      refine v_istore (lv' := [(0, .ref (ad 490)), (3, .ref (ad 495)), (6, .int x6), (7, .int x7_1), (8, .ref (ad N)), (9, .int (x9_5 + (nI 1))), (10, .ref (ad (N + 1))), (11, .int (nI 0)), (12, .int x12_11)]) X dL_keep_116 (by decide) rfl ?_
      refine v_sub [0, 1, 3, 4, 5, 6, 7, 8] rfl ?_
      refine t_L_keep_L118 X Y hL hw1 hw2 ?_ _ _ _ _ _ _ ?_ ?_ hf
      · intro cells slots x11_12 w13 hB1 hB2 hf
        refine v_aload_n X 0 dL_keep_160 rfl rfl ?_
        refine v_bipush X (v := (nI 6)) (by decide) dL_keep_161 ?_
        refine v_dup2 X rfl rfl dL_keep_163 ?_
        obtain ⟨hi14, hf⟩ := f_c hf
        refine v_iald X (lk0 hL) hi14 dL_keep_164 ?_
        refine v_iconst X (v := (nI 1)) (by decide) dL_keep_165 ?_
        refine v_iadd X dL_keep_166 ?_
        obtain ⟨hi15, hf⟩ := f_c hf
        obtain ⟨w16, ew16, hf⟩ := f_lt hf
        refine v_iast X (lk0 hL) hi15 dL_keep_167 ew16 ?_
        refine v_sub [1, 2, 3, 4, 5] rfl ?_
        exact t_L_keep_j168 X Y hL hw2 (by omega) (by omega) hf
      · have hFU : FU * 0 = 0 := rfl; omega
      · have hFU : FU * 0 = 0 := rfl; omega
    · have hFU : FU * 0 = 0 := rfl; omega
    · have hFU : FU * 0 = 0 := rfl; omega
  replace hf := f_fn c hf
  refine v_aload X 4 dL_keep_5 rfl ?_
  refine v_iconst X (v := (nI 0)) (by decide) dL_keep_7 ?_
  refine v_dup2 X rfl rfl dL_keep_8 ?_
  obtain ⟨hi17, hf⟩ := f_c hf
  refine v_iald X (lk6 hL) hi17 dL_keep_9 ?_
  refine v_iconst X (v := (nI 1)) (by decide) dL_keep_10 ?_
  refine v_iadd X dL_keep_11 ?_
  obtain ⟨hi18, hf⟩ := f_c hf
  obtain ⟨w19, ew19, hf⟩ := f_lt hf
  refine v_iast X (lk6 hL) hi18 dL_keep_12 ew19 ?_
  refine v_aload X 4 dL_keep_13 rfl ?_
  refine v_aload X 4 dL_keep_15 rfl ?_
  refine v_iconst X (v := (nI 0)) (by decide) dL_keep_17 ?_
  obtain ⟨hi20, hf⟩ := f_c hf
  refine v_iald X (lk6 hL) hi20 dL_keep_18 ?_
  refine v_iload X 6 dL_keep_19 rfl ?_
  obtain ⟨hi21, hf⟩ := f_c hf
  obtain ⟨w22, ew22, hf⟩ := f_lt hf
  refine v_iast X (lk6 hL) hi21 dL_keep_21 ew22 ?_
  exact v_vret X Y (by omega) (by omega) (f_s hf) dL_keep_22
abbrev rmL_arrive : Room := { frames := 2, cells := 2, slots := 18, locals := 60 }
set_option maxRecDepth 100000 in
set_option maxHeartbeats 4000000 in
theorem t_L_arrive_j165 {rk1 rk2 : Nat} (X : VX p s m args c cL_arrive 13 RL wsL_arrive D cI cL cS aC N0 ad0 len0 N ad len) (Y : RX meth (some .int)) (hL : LK N len) {x7 : Int32} {x8 : Int32} {x9 : Int32} {x12 : Int32} {w : Wd} {kc : Int32 → Wd → Option (Int32 × Wd)} {out : Int32 × Wd} (hB1 : cells + (0 + rk1) ≤ 2) (hB2 : slots + (0 + rk2) ≤ 18) (hX1 : 0 ≤ rk1) (hX2 : 0 ≤ rk2) (hf : m_L_arrive_j165 N x7 x8 x9 x12 w kc = some out) (hk_kc : ∀ (cells slots : Nat) (y12 : Int32) (v : Wd), cells + rk1 ≤ 2 → slots + rk2 ≤ 18 → kc y12 v = some out → VJ p l e rmL_arrive s m args below meth c (MQ below (QZi D N0 ad0 (cellL cI cL cS aC len0) out.1 out.2 s.heap.size) args s 2 18 (AF N0 ad0 s.heap.size)) 13 D cI cL cS aC N0 ad0 N ad len cells slots v 128 [(0, .ref (ad 490)), (4, .ref (ad 494)), (7, .int x7), (8, .int x8), (9, .int x9), (12, .int y12)] []) : VJ p l e rmL_arrive s m args below meth c (MQ below (QZi D N0 ad0 (cellL cI cL cS aC len0) out.1 out.2 s.heap.size) args s 2 18 (AF N0 ad0 s.heap.size)) 13 D cI cL cS aC N0 ad0 N ad len cells slots w 165 [(0, .ref (ad 490)), (4, .ref (ad 494)), (7, .int x7), (8, .int x8), (9, .int x9), (12, .int x12)] [] := by
  unfold m_L_arrive_j165 at hf
  have hN := hL.1
  refine v_iinc (v := (x12 + (nI 1))) (lv' := [(0, .ref (ad 490)), (4, .ref (ad 494)), (7, .int x7), (8, .int x8), (9, .int x9), (12, .int (x12 + (nI 1)))]) X 5 dL_arrive_165 rfl rfl (by decide) rfl ?_
  refine v_goto (tgt := 128) X dL_arrive_168 (by decide) ?_
  exact hk_kc _ _ _ _ (by omega) (by omega) hf
set_option maxRecDepth 100000 in
set_option maxHeartbeats 4000000 in
theorem t_L_arrive_L128 (X : VX p s m args c cL_arrive 13 RL wsL_arrive D cI cL cS aC N0 ad0 len0 N ad len) (Y : RX meth (some .int)) (hL : LK N len) {x7 : Int32} {x8 : Int32} {x9 : Int32} {out : Int32 × Wd} : ∀ (n : Nat) (cells slots : Nat) (x12 : Int32) (w : Wd), cells + (n * 0 + 0) ≤ 2 → slots + (n * 0 + 0) ≤ 18 → m_L_arrive_L128 N x7 x8 x9 n x12 w = some out → VJ p l e rmL_arrive s m args below meth c (MQ below (QZi D N0 ad0 (cellL cI cL cS aC len0) out.1 out.2 s.heap.size) args s 2 18 (AF N0 ad0 s.heap.size)) 13 D cI cL cS aC N0 ad0 N ad len cells slots w 128 [(0, .ref (ad 490)), (4, .ref (ad 494)), (7, .int x7), (8, .int x8), (9, .int x9), (12, .int x12)] [] := by
  intro n
  induction n with
  | zero => intro cells slots x12 w hB1 hB2 hf; exact f_n hf
  | succ n ih =>
    intro cells slots x12 w hB1 hB2 hf
    rw [m_L_arrive_L128] at hf
    have hN := hL.1
    refine v_iload X 5 dL_arrive_128 rfl ?_
    refine v_aload_n X 0 dL_arrive_130 rfl rfl ?_
    refine v_iconst X (v := (nI 0)) (by decide) dL_arrive_131 ?_
    obtain ⟨hi1, hf⟩ := f_c hf
    refine v_iald X (lk0 hL) hi1 dL_arrive_132 ?_
    refine v_icmp_ge (tgt := 171) X dL_arrive_133 (by decide) (fun c => ?_) (fun c => ?_)
    · replace hf := f_t c hf
      refine v_iconst X (v := (nI 1)) (by decide) dL_arrive_171 ?_
      exact v_iret X Y (by omega) (by omega) (f_p1 hf) (f_p2 hf) dL_arrive_172
    replace hf := f_f c hf
    refine v_aload_n X 0 dL_arrive_136 rfl rfl ?_
    refine v_bipush X (v := (nI 8)) (by decide) dL_arrive_137 ?_
    refine v_iload X 5 dL_arrive_139 rfl ?_
    refine v_iadd X dL_arrive_141 ?_
    obtain ⟨hi2, hf⟩ := f_c hf
    refine v_iald X (lk0 hL) hi2 dL_arrive_142 ?_
    refine v_iload X 2 dL_arrive_143 rfl ?_
    refine v_icmp_ne (tgt := 165) X dL_arrive_145 (by decide) (fun c => ?_) (fun c => ?_)
    · replace hf := f_t c hf
      exact t_L_arrive_j165 (rk1 := (n * 0 + 0)) (rk2 := (n * 0 + 0)) X Y hL (by omega) (by omega) (by omega) (by omega) hf ih
    replace hf := f_fn c hf
    refine v_iload X 5 dL_arrive_148 rfl ?_
    refine v_iload X 4 dL_arrive_150 rfl ?_
    refine v_icmp_eq (tgt := 165) X dL_arrive_152 (by decide) (fun c => ?_) (fun c => ?_)
    · replace hf := f_t c hf
      exact t_L_arrive_j165 (rk1 := (n * 0 + 0)) (rk2 := (n * 0 + 0)) X Y hL (by omega) (by omega) (by omega) (by omega) hf ih
    replace hf := f_f c hf
    refine v_aload_n X 0 dL_arrive_155 rfl rfl ?_
    refine v_aload X 1 dL_arrive_156 rfl ?_
    refine v_iload X 5 dL_arrive_158 rfl ?_
    refine v_iload X 3 dL_arrive_160 rfl ?_
    obtain ⟨o3, ho3, hf⟩ := f_bd hf
    refine v_callSv X [.ref (ad 490), .ref (ad 494), .int x12, .int x8] (c_L_put X.inj (RW.i (lk0 hL)) (RW.i (lk4 hL)) ho3) (va_cwS 4 X.2.2.2.2.1 gL_arrive_L_put rfl rfl rfl (by decide +kernel) ⟨Nat.le_of_ble_eq_true rfl, Nat.le_of_ble_eq_true rfl⟩) rfl rfl (Nat.le_of_ble_eq_true rfl) ⟨by show _ ≤ 2; omega, by show _ ≤ 18; omega⟩ dL_arrive_162 ?_
    exact t_L_arrive_j165 (rk1 := (n * 0 + 0)) (rk2 := (n * 0 + 0)) X Y hL (by omega) (by omega) (by omega) (by omega) hf ih
set_option maxRecDepth 100000 in
set_option maxHeartbeats 4000000 in
theorem t_L_arrive_j125 (X : VX p s m args c cL_arrive 13 RL wsL_arrive D cI cL cS aC N0 ad0 len0 N ad len) (Y : RX meth (some .int)) (hL : LK N len) {x7 : Int32} {x8 : Int32} {x9 : Int32} {w : Wd} {out : Int32 × Wd} (hB1 : cells + 0 ≤ 2) (hB2 : slots + 0 ≤ 18) (hf : m_L_arrive_j125 N x7 x8 x9 w = some out) : VJ p l e rmL_arrive s m args below meth c (MQ below (QZi D N0 ad0 (cellL cI cL cS aC len0) out.1 out.2 s.heap.size) args s 2 18 (AF N0 ad0 s.heap.size)) 13 D cI cL cS aC N0 ad0 N ad len cells slots w 125 [(0, .ref (ad 490)), (4, .ref (ad 494)), (7, .int x7), (8, .int x8), (9, .int x9)] [] := by
  unfold m_L_arrive_j125 at hf
  have hN := hL.1
  refine v_iconst X (v := (nI 1)) (by decide) dL_arrive_125 ?_
  refine v_istore (lv' := [(0, .ref (ad 490)), (4, .ref (ad 494)), (7, .int x7), (8, .int x8), (9, .int x9), (12, .int (nI 1))]) X dL_arrive_126 (by decide) rfl ?_
  refine t_L_arrive_L128 X Y hL _ _ _ _ _ ?_ ?_ hf
  · have hFU : FU * 0 = 0 := rfl; omega
  · have hFU : FU * 0 = 0 := rfl; omega
set_option maxRecDepth 100000 in
set_option maxHeartbeats 4000000 in
theorem t_L_arrive_j85 (X : VX p s m args c cL_arrive 13 RL wsL_arrive D cI cL cS aC N0 ad0 len0 N ad len) (Y : RX meth (some .int)) (hL : LK N len) {x7 : Int32} {x8 : Int32} {x9 : Int32} {w : Wd} {out : Int32 × Wd} (hB1 : cells + 2 ≤ 2) (hB2 : slots + 18 ≤ 18) (hf : m_L_arrive_j85 N x7 x8 x9 w = some out) : VJ p l e rmL_arrive s m args below meth c (MQ below (QZi D N0 ad0 (cellL cI cL cS aC len0) out.1 out.2 s.heap.size) args s 2 18 (AF N0 ad0 s.heap.size)) 13 D cI cL cS aC N0 ad0 N ad len cells slots w 85 [(0, .ref (ad 490)), (1, .ref (ad 491)), (2, .ref (ad 492)), (3, .ref (ad 493)), (4, .ref (ad 494)), (5, .ref (ad 495)), (6, .ref (ad 496)), (7, .int x7), (8, .int x8), (9, .int x9)] [] := by
  unfold m_L_arrive_j85 at hf
  have hN := hL.1
  refine v_aload_n X 0 dL_arrive_85 rfl rfl ?_
  refine v_aload_n X 1 dL_arrive_86 rfl rfl ?_
  refine v_aload_n X 2 dL_arrive_87 rfl rfl ?_
  refine v_aload X 5 dL_arrive_88 rfl ?_
  refine v_aload X 6 dL_arrive_90 rfl ?_
  refine v_iload X 7 dL_arrive_92 rfl ?_
  refine v_iload X 8 dL_arrive_94 rfl ?_
  obtain ⟨o1, ho1, hf⟩ := f_bd hf
  refine v_callLv X [.ref (ad 490), .ref (ad 491), .ref (ad 492), .ref (ad 495), .ref (ad 496), .int x7, .int x8] (c_L_keep X.inj X.ac hL ho1) (va_cwS 7 X.2.2.2.2.1 gL_arrive_L_keep rfl rfl rfl (by decide +kernel) ⟨Nat.le_of_ble_eq_true rfl, Nat.le_of_ble_eq_true rfl⟩) rfl rfl (Nat.le_of_ble_eq_true rfl) ⟨by show _ ≤ 2; omega, by show _ ≤ 18; omega⟩ dL_arrive_96 ?_
  refine v_iload X 7 dL_arrive_99 rfl ?_
  refine v_if_le (tgt := 125) X dL_arrive_101 (by decide) (fun c => ?_) (fun c => ?_)
  · replace hf := f_t c hf
    refine v_sub [0, 4, 7, 8, 9] rfl ?_
    exact t_L_arrive_j125 X Y hL (by omega) (by omega) hf
  replace hf := f_f c hf
  refine v_aload_n X 0 dL_arrive_104 rfl rfl ?_
  refine v_bipush X (v := (nI 8)) (by decide) dL_arrive_105 ?_
  refine v_iload X 7 dL_arrive_107 rfl ?_
  refine v_iadd X dL_arrive_109 ?_
  obtain ⟨hi2, hf⟩ := f_c hf
  refine v_iald X (lk0 hL) hi2 dL_arrive_110 ?_
  refine v_iload X 9 dL_arrive_111 rfl ?_
  refine v_icmp_eq (tgt := 125) X dL_arrive_113 (by decide) (fun c => ?_) (fun c => ?_)
  · replace hf := f_t c hf
    refine v_sub [0, 4, 7, 8, 9] rfl ?_
    exact t_L_arrive_j125 X Y hL (by omega) (by omega) hf
  replace hf := f_f c hf
  refine v_aload_n X 0 dL_arrive_116 rfl rfl ?_
  refine v_aload_n X 3 dL_arrive_117 rfl rfl ?_
  refine v_iload X 7 dL_arrive_118 rfl ?_
  refine v_iload X 8 dL_arrive_120 rfl ?_
  obtain ⟨o3, ho3, hf⟩ := f_bd hf
  refine v_callSv X [.ref (ad 490), .ref (ad 493), .int x7, .int x8] (c_L_put X.inj (RW.i (lk0 hL)) (RW.i (lk3 hL)) ho3) (va_cwS 4 X.2.2.2.2.1 gL_arrive_L_put rfl rfl rfl (by decide +kernel) ⟨Nat.le_of_ble_eq_true rfl, Nat.le_of_ble_eq_true rfl⟩) rfl rfl (Nat.le_of_ble_eq_true rfl) ⟨by show _ ≤ 2; omega, by show _ ≤ 18; omega⟩ dL_arrive_122 ?_
  refine v_sub [0, 4, 7, 8, 9] rfl ?_
  exact t_L_arrive_j125 X Y hL (by omega) (by omega) hf
set_option maxRecDepth 100000 in
set_option maxHeartbeats 4000000 in
theorem c_L_arrive (hI : Inj N ad) (hA : AC aC N ad) (hL : LK N len) {x7 : Int32} {x8 : Int32} {x9 : Int32} {w : Wd} {out : Int32 × Wd} (hf : m_L_arrive N x7 x8 x9 w = some out) : ∀ sz : Nat, Met l yL_arrive wsL_arrive rmL_arrive (va_Pc [.ref (ad 490), .ref (ad 491), .ref (ad 492), .ref (ad 493), .ref (ad 494), .ref (ad 495), .ref (ad 496), .int x7, .int x8, .int x9] (PZ sz D (tC cI cL cS) N ad (cellL cI cL cS aC len) w)) (QZi D N ad (cellL cI cL cS aC len) out.1 out.2 sz) 2 18 (AF N ad sz) := by
  intro sz
  refine mk_metZ (maxL := 13) (ret := (some .int)) RL hI hA hL.n490 (by decide) rfl rfl (Nat.le_of_ble_eq_true rfl) rfl rfl (fun p e s m args below meth c hsz X Y => ?_)
  subst hsz
  unfold m_L_arrive at hf
  have hN := hL.1
  refine v_iconst X (v := (nI 4)) (by decide) dL_arrive_0 ?_
  refine v_iload X 7 dL_arrive_1 rfl ?_
  refine v_imul X dL_arrive_3 ?_
  refine v_iload X 8 dL_arrive_4 rfl ?_
  refine v_bipush X (v := (nI 16)) (by decide) dL_arrive_6 ?_
  refine v_idiv X (by decide) dL_arrive_8 ?_
  refine v_iadd X dL_arrive_9 ?_
  obtain ⟨x10_1, ex10_1, hf⟩ := f_lt hf
  refine v_top ex10_1 ?_
  refine v_istore (lv' := [(0, .ref (ad 490)), (1, .ref (ad 491)), (2, .ref (ad 492)), (3, .ref (ad 493)), (4, .ref (ad 494)), (5, .ref (ad 495)), (6, .ref (ad 496)), (7, .int x7), (8, .int x8), (9, .int x9), (10, .int x10_1)]) X dL_arrive_10 (by decide) rfl ?_
  refine v_aload_n X 1 dL_arrive_12 rfl rfl ?_
  refine v_iload X 10 dL_arrive_13 rfl ?_
  obtain ⟨hi2, hf⟩ := f_c hf
  refine v_iald X (lk1 hL) hi2 dL_arrive_15 ?_
  obtain ⟨x11_3, ex11_3, hf⟩ := f_lt hf
  refine v_top ex11_3 ?_
  refine v_istore (lv' := [(0, .ref (ad 490)), (1, .ref (ad 491)), (2, .ref (ad 492)), (3, .ref (ad 493)), (4, .ref (ad 494)), (5, .ref (ad 495)), (6, .ref (ad 496)), (7, .int x7), (8, .int x8), (9, .int x9), (10, .int x10_1), (11, .int x11_3)]) X dL_arrive_16 (by decide) rfl ?_
  refine v_iload X 11 dL_arrive_18 rfl ?_
  refine v_iload X 8 dL_arrive_20 rfl ?_
  refine v_bipush X (v := (nI 16)) (by decide) dL_arrive_22 ?_
  refine v_irem X (by decide) dL_arrive_24 ?_
  refine v_ishr X dL_arrive_25 ?_
  refine v_iconst X (v := (nI 1)) (by decide) dL_arrive_26 ?_
  refine v_iand X dL_arrive_27 ?_
  refine v_iconst X (v := (nI 1)) (by decide) dL_arrive_28 ?_
  refine v_icmp_ne (tgt := 34) X dL_arrive_29 (by decide) (fun c => ?_) (fun c => ?_)
  · replace hf := f_t c hf
    refine v_aload_n X 1 dL_arrive_34 rfl rfl ?_
    refine v_iload X 10 dL_arrive_35 rfl ?_
    refine v_iload X 11 dL_arrive_37 rfl ?_
    refine v_iconst X (v := (nI 1)) (by decide) dL_arrive_39 ?_
    refine v_iload X 8 dL_arrive_40 rfl ?_
    refine v_bipush X (v := (nI 16)) (by decide) dL_arrive_42 ?_
    refine v_irem X (by decide) dL_arrive_44 ?_
    refine v_ishl X dL_arrive_45 ?_
    refine v_ior X dL_arrive_46 ?_
    obtain ⟨hi4, hf⟩ := f_c hf
    obtain ⟨w5, ew5, hf⟩ := f_lt hf
    refine v_iast X (lk1 hL) hi4 dL_arrive_47 ew5 ?_
    refine v_iload X 9 dL_arrive_48 rfl ?_
    refine v_if_lt (tgt := 85) X dL_arrive_50 (by decide) (fun c => ?_) (fun c => ?_)
    · replace hf := f_t c hf
      refine v_sub [0, 1, 2, 3, 4, 5, 6, 7, 8, 9] rfl ?_
      exact t_L_arrive_j85 X Y hL (by omega) (by omega) hf
    replace hf := f_f c hf
    refine v_iload X 7 dL_arrive_53 rfl ?_
    refine v_if_le (tgt := 85) X dL_arrive_55 (by decide) (fun c => ?_) (fun c => ?_)
    · replace hf := f_t c hf
      refine v_sub [0, 1, 2, 3, 4, 5, 6, 7, 8, 9] rfl ?_
      exact t_L_arrive_j85 X Y hL (by omega) (by omega) hf
    replace hf := f_f c hf
    refine v_aload_n X 1 dL_arrive_58 rfl rfl ?_
    refine v_iload X 7 dL_arrive_59 rfl ?_
    obtain ⟨o6, ho6, hf⟩ := f_bd hf
    refine v_callSi X [.ref (ad 491), .int x7] (c_L_ranges X.inj (RW.i (lk1 hL)) ho6) (va_cwS 2 X.2.2.2.2.1 gL_arrive_L_ranges rfl rfl rfl (by decide +kernel) ⟨Nat.le_of_ble_eq_true rfl, Nat.le_of_ble_eq_true rfl⟩) rfl rfl (Nat.le_of_ble_eq_true rfl) ⟨by show _ ≤ 2; omega, by show _ ≤ 18; omega⟩ dL_arrive_61 ?_
    refine v_aload_n X 0 dL_arrive_64 rfl rfl ?_
    refine v_iconst X (v := (nI 1)) (by decide) dL_arrive_65 ?_
    obtain ⟨hi7, hf⟩ := f_c hf
    refine v_iald X (lk0 hL) hi7 dL_arrive_66 ?_
    refine v_icmp_le (tgt := 85) X dL_arrive_67 (by decide) (fun c => ?_) (fun c => ?_)
    · replace hf := f_t c hf
      refine v_sub [0, 1, 2, 3, 4, 5, 6, 7, 8, 9] rfl ?_
      exact t_L_arrive_j85 X Y hL (by omega) (by omega) hf
    replace hf := f_f c hf
    refine v_aload_n X 1 dL_arrive_70 rfl rfl ?_
    refine v_iload X 10 dL_arrive_71 rfl ?_
    refine v_iload X 11 dL_arrive_73 rfl ?_
    obtain ⟨hi8, hf⟩ := f_c hf
    obtain ⟨w9, ew9, hf⟩ := f_lt hf
    refine v_iast X (lk1 hL) hi8 dL_arrive_75 ew9 ?_
    refine v_aload_n X 0 dL_arrive_76 rfl rfl ?_
    refine v_iconst X (v := (nI 3)) (by decide) dL_arrive_77 ?_
    refine v_dup2 X rfl rfl dL_arrive_78 ?_
    obtain ⟨hi10, hf⟩ := f_c hf
    refine v_iald X (lk0 hL) hi10 dL_arrive_79 ?_
    refine v_iconst X (v := (nI 1)) (by decide) dL_arrive_80 ?_
    refine v_iadd X dL_arrive_81 ?_
    obtain ⟨hi11, hf⟩ := f_c hf
    obtain ⟨w12, ew12, hf⟩ := f_lt hf
    refine v_iast X (lk0 hL) hi11 dL_arrive_82 ew12 ?_
    refine v_iconst X (v := (-1 : Int32)) (by decide) dL_arrive_83 ?_
    exact v_iret X Y (by omega) (by omega) (f_p1 hf) (f_p2 hf) dL_arrive_84
  replace hf := f_fn c hf
  refine v_iconst X (v := (nI 0)) (by decide) dL_arrive_32 ?_
  exact v_iret X Y (by omega) (by omega) (f_p1 hf) (f_p2 hf) dL_arrive_33
end WALK71
