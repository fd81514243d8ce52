/-! ===== the bytecode does what the model says (printed by wip/p27/tools/genL.py) ===== -/
section WALK73
variable {p : Program} {l : Launch} {e : Env} {s : State} {m : MethodId} {args : Array Value} {below : List Frame} {meth : Method} {c : Code} {D : va_G} {cI cL cS : ClassId} {ad : Nat → Nat} {aC ad0 : Nat → Nat} {N N0 : Nat} {len len0 : Nat → Nat} {cells slots : Nat}
abbrev rmL_ask : Room := { frames := 3, cells := 883, slots := 7946, locals := 92 }
set_option maxRecDepth 100000 in
set_option maxHeartbeats 4000000 in
theorem t_L_ask_L13 (X : VX p s m args c cL_ask 19 RL wsL_ask D cI cL cS aC N0 ad0 len0 N ad len) (Y : RX meth (some .int)) (hL : LK N len) {q8 : Nat} {kx40 : Int32 → Wd → Option (Int32 × Wd)} {out : Int32 × Wd} (hq8 : RW N len q8 8) (hk_kx40 : ∀ (cells slots : Nat) (y9 : Int32) (v : Wd), cells + 882 ≤ 883 → slots + 7938 ≤ 7946 → kx40 y9 v = some out → VJ p l e rmL_ask s m args below meth c (MQ below (QZi D N0 ad0 (cellL cI cL cS aC len0) out.1 out.2 s.heap.size) args s 883 7946 (AF N0 ad0 s.heap.size)) 19 D cI cL cS aC N0 ad0 N ad len cells slots v 40 [(0, .ref (ad 490)), (1, .ref (ad 491)), (2, .ref (ad 492)), (3, .ref (ad 493)), (4, .ref (ad 494)), (5, .ref (ad 495)), (6, .ref (ad 496)), (8, .ref (ad q8)), (9, .int y9)] []) : ∀ (n : Nat) (cells slots : Nat) (x9 : Int32) (x10 : Int32) (w : Wd), cells + (n * 0 + 882) ≤ 883 → slots + (n * 0 + 7938) ≤ 7946 → m_L_ask_L13 N q8 kx40 n x9 x10 w = some out → VJ p l e rmL_ask s m args below meth c (MQ below (QZi D N0 ad0 (cellL cI cL cS aC len0) out.1 out.2 s.heap.size) args s 883 7946 (AF N0 ad0 s.heap.size)) 19 D cI cL cS aC N0 ad0 N ad len cells slots w 13 [(0, .ref (ad 490)), (1, .ref (ad 491)), (2, .ref (ad 492)), (3, .ref (ad 493)), (4, .ref (ad 494)), (5, .ref (ad 495)), (6, .ref (ad 496)), (8, .ref (ad q8)), (9, .int x9), (10, .int x10)] [] := by
  intro n
  induction n with
  | zero => intro cells slots x9 x10 w hB1 hB2 hf; exact f_n hf
  | succ n ih =>
    intro cells slots x9 x10 w hB1 hB2 hf
    rw [m_L_ask_L13] at hf
    have hN := hL.1
    refine v_iload X 9 dL_ask_13 rfl ?_
    refine v_if_le (tgt := 40) X dL_ask_15 (by decide) (fun c => ?_) (fun c => ?_)
    · replace hf := f_t c hf
      refine v_sub [0, 1, 2, 3, 4, 5, 6, 7, 8] rfl ?_
      exact hk_kx40 _ _ _ _ (by omega) (by omega) hf
    replace hf := f_f c hf
    refine v_aload X 7 dL_ask_18 rfl ?_
    refine v_iload X 8 dL_ask_20 rfl ?_
    refine v_iload X 9 dL_ask_22 rfl ?_
    obtain ⟨hi1, hf⟩ := f_c hf
    obtain ⟨w2, ew2, hf⟩ := f_lt hf
    refine v_iast X hq8 hi1 dL_ask_24 ew2 ?_
    refine v_iinc (v := (x9 + (nI 1))) (lv' := [(0, .ref (ad 490)), (1, .ref (ad 491)), (2, .ref (ad 492)), (3, .ref (ad 493)), (4, .ref (ad 494)), (5, .ref (ad 495)), (6, .ref (ad 496)), (8, .ref (ad q8)), (9, .int (x9 + (nI 1))), (10, .int x10)]) X 8 dL_ask_25 rfl rfl (by decide) rfl ?_
    refine v_aload_n X 0 dL_ask_28 rfl rfl ?_
    refine v_bipush X (v := (nI 8)) (by decide) dL_ask_29 ?_
    refine v_iload X 9 dL_ask_31 rfl ?_
    refine v_iadd X dL_ask_33 ?_
    obtain ⟨hi3, hf⟩ := f_c hf
    refine v_iald X (lk0 hL) hi3 dL_ask_34 ?_
    obtain ⟨x10_4, ex10_4, hf⟩ := f_lt hf
    refine v_top ex10_4 ?_
    refine v_istore (lv' := [(0, .ref (ad 490)), (1, .ref (ad 491)), (2, .ref (ad 492)), (3, .ref (ad 493)), (4, .ref (ad 494)), (5, .ref (ad 495)), (6, .ref (ad 496)), (8, .ref (ad q8)), (9, .int (x9 + (nI 1))), (10, .int x10_4)]) X dL_ask_35 (by decide) rfl ?_
    refine v_goto (tgt := 13) X dL_ask_37 (by decide) ?_
    exact ih _ _ _ _ _ (by omega) (by omega) hf
set_option maxRecDepth 100000 in
set_option maxHeartbeats 4000000 in
theorem t_L_ask_j225 {rk1 rk2 rp1 rp2 : Nat} (X : VX p s m args c cL_ask 19 RL wsL_ask D cI cL cS aC N0 ad0 len0 N ad len) (Y : RX meth (some .int)) (hL : LK N len) {q8 : Nat} {x10 : Int32} {x11 : Int32} {x12 : Int32} {x13 : Int32} {x14 : Int32} {w : Wd} {kc : Int32 → Int32 → Wd → Option (Int32 × Wd)} {kx231 : Int32 → Wd → Option (Int32 × Wd)} {out : Int32 × Wd} (hq8 : RW N len q8 8) (hB1 : cells + (0 + rk1) ≤ 883) (hB2 : slots + (0 + rk2) ≤ 7946) (hX1 : 0 + rp1 ≤ rk1) (hX2 : 0 + rp2 ≤ rk2) (hf : m_L_ask_j225 N q8 x10 x11 x12 x13 x14 w kc kx231 = some out) (hk_kc : ∀ (cells slots : Nat) (y10 : Int32) (y14 : Int32) (v : Wd), cells + rk1 ≤ 883 → slots + rk2 ≤ 7946 → kc y10 y14 v = some out → VJ p l e rmL_ask s m args below meth c (MQ below (QZi D N0 ad0 (cellL cI cL cS aC len0) out.1 out.2 s.heap.size) args s 883 7946 (AF N0 ad0 s.heap.size)) 19 D cI cL cS aC N0 ad0 N ad len cells slots v 81 [(0, .ref (ad 490)), (1, .ref (ad 491)), (2, .ref (ad 492)), (3, .ref (ad 493)), (4, .ref (ad 494)), (5, .ref (ad 495)), (6, .ref (ad 496)), (8, .ref (ad q8)), (10, .int y10), (11, .int x11), (12, .int x12), (13, .int x13), (14, .int y14)] []) (hk_kx231 : ∀ (cells slots : Nat) (y10 : Int32) (v : Wd), cells + (0 + rp1) ≤ 883 → slots + (0 + rp2) ≤ 7946 → kx231 y10 v = some out → VJ p l e rmL_ask s m args below meth c (MQ below (QZi D N0 ad0 (cellL cI cL cS aC len0) out.1 out.2 s.heap.size) args s 883 7946 (AF N0 ad0 s.heap.size)) 19 D cI cL cS aC N0 ad0 N ad len cells slots v 231 [(0, .ref (ad 490)), (1, .ref (ad 491)), (2, .ref (ad 492)), (3, .ref (ad 493)), (4, .ref (ad 494)), (5, .ref (ad 495)), (6, .ref (ad 496)), (8, .ref (ad q8)), (10, .int y10), (11, .int x11)] []) : VJ p l e rmL_ask s m args below meth c (MQ below (QZi D N0 ad0 (cellL cI cL cS aC len0) out.1 out.2 s.heap.size) args s 883 7946 (AF N0 ad0 s.heap.size)) 19 D cI cL cS aC N0 ad0 N ad len cells slots w 225 [(0, .ref (ad 490)), (1, .ref (ad 491)), (2, .ref (ad 492)), (3, .ref (ad 493)), (4, .ref (ad 494)), (5, .ref (ad 495)), (6, .ref (ad 496)), (8, .ref (ad q8)), (10, .int x10), (11, .int x11), (12, .int x12), (13, .int x13), (14, .int x14)] [] := by
  unfold m_L_ask_j225 at hf
  have hN := hL.1
  refine v_iinc (v := (x14 + (nI 1))) (lv' := [(0, .ref (ad 490)), (1, .ref (ad 491)), (2, .ref (ad 492)), (3, .ref (ad 493)), (4, .ref (ad 494)), (5, .ref (ad 495)), (6, .ref (ad 496)), (8, .ref (ad q8)), (10, .int x10), (11, .int x11), (12, .int x12), (13, .int x13), (14, .int (x14 + (nI 1)))]) X 12 dL_ask_225 rfl rfl (by decide) rfl ?_
  refine v_goto (tgt := 81) X dL_ask_228 (by decide) ?_
  exact hk_kc _ _ _ _ _ (by omega) (by omega) hf
set_option maxRecDepth 100000 in
set_option maxHeartbeats 4000000 in
theorem t_L_ask_j223 {rk1 rk2 rp1 rp2 : Nat} (X : VX p s m args c cL_ask 19 RL wsL_ask D cI cL cS aC N0 ad0 len0 N ad len) (Y : RX meth (some .int)) (hL : LK N len) {q8 : Nat} {x10 : Int32} {x11 : Int32} {x12 : Int32} {x13 : Int32} {x14 : Int32} {s1 : Int32} {s2 : Int32} {s3 : Int32} {w : Wd} {kc : Int32 → Int32 → Wd → Option (Int32 × Wd)} {kx231 : Int32 → Wd → Option (Int32 × Wd)} {out : Int32 × Wd} (hq8 : RW N len q8 8) (hB1 : cells + (0 + rk1) ≤ 883) (hB2 : slots + (0 + rk2) ≤ 7946) (hX1 : 0 + rp1 ≤ rk1) (hX2 : 0 + rp2 ≤ rk2) (hf : m_L_ask_j223 N q8 x10 x11 x12 x13 x14 s1 s2 s3 w kc kx231 = some out) (hk_kc : ∀ (cells slots : Nat) (y10 : Int32) (y14 : Int32) (v : Wd), cells + rk1 ≤ 883 → slots + rk2 ≤ 7946 → kc y10 y14 v = some out → VJ p l e rmL_ask s m args below meth c (MQ below (QZi D N0 ad0 (cellL cI cL cS aC len0) out.1 out.2 s.heap.size) args s 883 7946 (AF N0 ad0 s.heap.size)) 19 D cI cL cS aC N0 ad0 N ad len cells slots v 81 [(0, .ref (ad 490)), (1, .ref (ad 491)), (2, .ref (ad 492)), (3, .ref (ad 493)), (4, .ref (ad 494)), (5, .ref (ad 495)), (6, .ref (ad 496)), (8, .ref (ad q8)), (10, .int y10), (11, .int x11), (12, .int x12), (13, .int x13), (14, .int y14)] []) (hk_kx231 : ∀ (cells slots : Nat) (y10 : Int32) (v : Wd), cells + (0 + rp1) ≤ 883 → slots + (0 + rp2) ≤ 7946 → kx231 y10 v = some out → VJ p l e rmL_ask s m args below meth c (MQ below (QZi D N0 ad0 (cellL cI cL cS aC len0) out.1 out.2 s.heap.size) args s 883 7946 (AF N0 ad0 s.heap.size)) 19 D cI cL cS aC N0 ad0 N ad len cells slots v 231 [(0, .ref (ad 490)), (1, .ref (ad 491)), (2, .ref (ad 492)), (3, .ref (ad 493)), (4, .ref (ad 494)), (5, .ref (ad 495)), (6, .ref (ad 496)), (8, .ref (ad q8)), (10, .int y10), (11, .int x11)] []) : VJ p l e rmL_ask s m args below meth c (MQ below (QZi D N0 ad0 (cellL cI cL cS aC len0) out.1 out.2 s.heap.size) args s 883 7946 (AF N0 ad0 s.heap.size)) 19 D cI cL cS aC N0 ad0 N ad len cells slots w 223 [(0, .ref (ad 490)), (1, .ref (ad 491)), (2, .ref (ad 492)), (3, .ref (ad 493)), (4, .ref (ad 494)), (5, .ref (ad 495)), (6, .ref (ad 496)), (8, .ref (ad q8)), (10, .int x10), (11, .int x11), (12, .int x12), (13, .int x13), (14, .int x14)] [.int s3, .int s2, .int s1, .ref (ad 490)] := by
  unfold m_L_ask_j223 at hf
  have hN := hL.1
  refine v_iadd X dL_ask_223 ?_
  obtain ⟨hi1, hf⟩ := f_c hf
  obtain ⟨w2, ew2, hf⟩ := f_lt hf
  refine v_iast X (lk0 hL) hi1 dL_ask_224 ew2 ?_
  exact t_L_ask_j225 (rk1 := rk1) (rk2 := rk2) (rp1 := rp1) (rp2 := rp2) X Y hL hq8 (by omega) (by omega) (by omega) (by omega) hf hk_kc hk_kx231
set_option maxRecDepth 100000 in
set_option maxHeartbeats 4000000 in
theorem t_L_ask_j205 {rk1 rk2 rp1 rp2 : Nat} (X : VX p s m args c cL_ask 19 RL wsL_ask D cI cL cS aC N0 ad0 len0 N ad len) (Y : RX meth (some .int)) (hL : LK N len) {q8 : Nat} {x11 : Int32} {x12 : Int32} {x13 : Int32} {x14 : Int32} {x18 : Int32} {s0 : Int32} {s1 : Int32} {w : Wd} {kc : Int32 → Int32 → Wd → Option (Int32 × Wd)} {kx231 : Int32 → Wd → Option (Int32 × Wd)} {out : Int32 × Wd} (hq8 : RW N len q8 8) (hB1 : cells + (0 + rk1) ≤ 883) (hB2 : slots + (0 + rk2) ≤ 7946) (hX1 : 0 + rp1 ≤ rk1) (hX2 : 0 + rp2 ≤ rk2) (hf : m_L_ask_j205 N q8 x11 x12 x13 x14 x18 s0 s1 w kc kx231 = some out) (hk_kc : ∀ (cells slots : Nat) (y10 : Int32) (y14 : Int32) (v : Wd), cells + rk1 ≤ 883 → slots + rk2 ≤ 7946 → kc y10 y14 v = some out → VJ p l e rmL_ask s m args below meth c (MQ below (QZi D N0 ad0 (cellL cI cL cS aC len0) out.1 out.2 s.heap.size) args s 883 7946 (AF N0 ad0 s.heap.size)) 19 D cI cL cS aC N0 ad0 N ad len cells slots v 81 [(0, .ref (ad 490)), (1, .ref (ad 491)), (2, .ref (ad 492)), (3, .ref (ad 493)), (4, .ref (ad 494)), (5, .ref (ad 495)), (6, .ref (ad 496)), (8, .ref (ad q8)), (10, .int y10), (11, .int x11), (12, .int x12), (13, .int x13), (14, .int y14)] []) (hk_kx231 : ∀ (cells slots : Nat) (y10 : Int32) (v : Wd), cells + (0 + rp1) ≤ 883 → slots + (0 + rp2) ≤ 7946 → kx231 y10 v = some out → VJ p l e rmL_ask s m args below meth c (MQ below (QZi D N0 ad0 (cellL cI cL cS aC len0) out.1 out.2 s.heap.size) args s 883 7946 (AF N0 ad0 s.heap.size)) 19 D cI cL cS aC N0 ad0 N ad len cells slots v 231 [(0, .ref (ad 490)), (1, .ref (ad 491)), (2, .ref (ad 492)), (3, .ref (ad 493)), (4, .ref (ad 494)), (5, .ref (ad 495)), (6, .ref (ad 496)), (8, .ref (ad q8)), (10, .int y10), (11, .int x11)] []) : VJ p l e rmL_ask s m args below meth c (MQ below (QZi D N0 ad0 (cellL cI cL cS aC len0) out.1 out.2 s.heap.size) args s 883 7946 (AF N0 ad0 s.heap.size)) 19 D cI cL cS aC N0 ad0 N ad len cells slots w 205 [(0, .ref (ad 490)), (1, .ref (ad 491)), (2, .ref (ad 492)), (3, .ref (ad 493)), (4, .ref (ad 494)), (5, .ref (ad 495)), (6, .ref (ad 496)), (8, .ref (ad q8)), (11, .int x11), (12, .int x12), (13, .int x13), (14, .int x14), (18, .int x18)] [.int s1, .int s0] := by
  unfold m_L_ask_j205 at hf
  have hN := hL.1
  refine v_iadd X dL_ask_205 ?_
  obtain ⟨x10_1, ex10_1, hf⟩ := f_lt hf
  refine v_top ex10_1 ?_
  refine v_istore (lv' := [(0, .ref (ad 490)), (1, .ref (ad 491)), (2, .ref (ad 492)), (3, .ref (ad 493)), (4, .ref (ad 494)), (5, .ref (ad 495)), (6, .ref (ad 496)), (8, .ref (ad q8)), (10, .int x10_1), (11, .int x11), (12, .int x12), (13, .int x13), (14, .int x14), (18, .int x18)]) X dL_ask_206 (by decide) rfl ?_
  refine v_aload_n X 0 dL_ask_208 rfl rfl ?_
  refine v_bipush X (v := (nI 7)) (by decide) dL_ask_209 ?_
  refine v_dup2 X rfl rfl dL_ask_211 ?_
  obtain ⟨hi2, hf⟩ := f_c hf
  refine v_iald X (lk0 hL) hi2 dL_ask_212 ?_
  refine v_iload X 13 dL_ask_213 rfl ?_
  refine v_if_ne (tgt := 222) X dL_ask_215 (by decide) (fun c => ?_) (fun c => ?_)
  · replace hf := f_t c hf
    refine v_iconst X (v := (nI 1)) (by decide) dL_ask_222 ?_
    refine v_sub [0, 1, 2, 3, 4, 5, 6, 7, 8, 9, 10, 11, 12] rfl ?_
    exact t_L_ask_j223 (rk1 := rk1) (rk2 := rk2) (rp1 := rp1) (rp2 := rp2) X Y hL hq8 (by omega) (by omega) (by omega) (by omega) hf hk_kc hk_kx231
  replace hf := f_fn c hf
  refine v_iconst X (v := (nI 0)) (by decide) dL_ask_218 ?_
  refine v_goto (tgt := 223) X dL_ask_219 (by decide) ?_
  refine v_sub [0, 1, 2, 3, 4, 5, 6, 7, 8, 9, 10, 11, 12] rfl ?_
  exact t_L_ask_j223 (rk1 := rk1) (rk2 := rk2) (rp1 := rp1) (rp2 := rp2) X Y hL hq8 (by omega) (by omega) (by omega) (by omega) hf hk_kc hk_kx231
set_option maxRecDepth 100000 in
set_option maxHeartbeats 4000000 in
theorem t_L_ask_j141 {rk1 rk2 rp1 rp2 : Nat} (X : VX p s m args c cL_ask 19 RL wsL_ask D cI cL cS aC N0 ad0 len0 N ad len) (Y : RX meth (some .int)) (hL : LK N len) {q8 : Nat} {x10 : Int32} {x11 : Int32} {x12 : Int32} {x13 : Int32} {x14 : Int32} {x15 : Int32} {x16 : Int32} {s0 : Int32} {w : Wd} {kc : Int32 → Int32 → Wd → Option (Int32 × Wd)} {kx231 : Int32 → Wd → Option (Int32 × Wd)} {out : Int32 × Wd} (hq8 : RW N len q8 8) (hB1 : cells + (2 + rk1) ≤ 883) (hB2 : slots + (18 + rk2) ≤ 7946) (hX1 : 0 + rp1 ≤ rk1) (hX2 : 0 + rp2 ≤ rk2) (hf : m_L_ask_j141 N q8 x10 x11 x12 x13 x14 x15 x16 s0 w kc kx231 = some out) (hk_kc : ∀ (cells slots : Nat) (y10 : Int32) (y14 : Int32) (v : Wd), cells + rk1 ≤ 883 → slots + rk2 ≤ 7946 → kc y10 y14 v = some out → VJ p l e rmL_ask s m args below meth c (MQ below (QZi D N0 ad0 (cellL cI cL cS aC len0) out.1 out.2 s.heap.size) args s 883 7946 (AF N0 ad0 s.heap.size)) 19 D cI cL cS aC N0 ad0 N ad len cells slots v 81 [(0, .ref (ad 490)), (1, .ref (ad 491)), (2, .ref (ad 492)), (3, .ref (ad 493)), (4, .ref (ad 494)), (5, .ref (ad 495)), (6, .ref (ad 496)), (8, .ref (ad q8)), (10, .int y10), (11, .int x11), (12, .int x12), (13, .int x13), (14, .int y14)] []) (hk_kx231 : ∀ (cells slots : Nat) (y10 : Int32) (v : Wd), cells + (0 + rp1) ≤ 883 → slots + (0 + rp2) ≤ 7946 → kx231 y10 v = some out → VJ p l e rmL_ask s m args below meth c (MQ below (QZi D N0 ad0 (cellL cI cL cS aC len0) out.1 out.2 s.heap.size) args s 883 7946 (AF N0 ad0 s.heap.size)) 19 D cI cL cS aC N0 ad0 N ad len cells slots v 231 [(0, .ref (ad 490)), (1, .ref (ad 491)), (2, .ref (ad 492)), (3, .ref (ad 493)), (4, .ref (ad 494)), (5, .ref (ad 495)), (6, .ref (ad 496)), (8, .ref (ad q8)), (10, .int y10), (11, .int x11)] []) : VJ p l e rmL_ask s m args below meth c (MQ below (QZi D N0 ad0 (cellL cI cL cS aC len0) out.1 out.2 s.heap.size) args s 883 7946 (AF N0 ad0 s.heap.size)) 19 D cI cL cS aC N0 ad0 N ad len cells slots w 141 [(0, .ref (ad 490)), (1, .ref (ad 491)), (2, .ref (ad 492)), (3, .ref (ad 493)), (4, .ref (ad 494)), (5, .ref (ad 495)), (6, .ref (ad 496)), (8, .ref (ad q8)), (10, .int x10), (11, .int x11), (12, .int x12), (13, .int x13), (14, .int x14), (15, .int x15), (16, .int x16)] [.int s0] := by
  unfold m_L_ask_j141 at hf
  have hN := hL.1
  refine v_istore (lv' := [(0, .ref (ad 490)), (1, .ref (ad 491)), (2, .ref (ad 492)), (3, .ref (ad 493)), (4, .ref (ad 494)), (5, .ref (ad 495)), (6, .ref (ad 496)), (8, .ref (ad q8)), (10, .int x10), (11, .int x11), (12, .int x12), (13, .int x13), (14, .int x14), (15, .int x15), (16, .int x16), (17, .int s0)]) X dL_ask_141 (by decide) rfl ?_
  refine v_iload X 15 dL_ask_143 rfl ?_
  refine v_if_eq (tgt := 225) X dL_ask_145 (by decide) (fun c => ?_) (fun c => ?_)
  · replace hf := f_t c hf
    refine v_sub [0, 1, 2, 3, 4, 5, 6, 7, 8, 9, 10, 11, 12] rfl ?_
    exact t_L_ask_j225 (rk1 := rk1) (rk2 := rk2) (rp1 := rp1) (rp2 := rp2) X Y hL hq8 (by omega) (by omega) (by omega) (by omega) hf hk_kc hk_kx231
  replace hf := f_f c hf
  refine v_aload_n X 1 dL_ask_148 rfl rfl ?_
  refine v_iconst X (v := (nI 4)) (by decide) dL_ask_149 ?_
  refine v_iload X 11 dL_ask_150 rfl ?_
  refine v_imul X dL_ask_152 ?_
  refine v_iload X 13 dL_ask_153 rfl ?_
  refine v_iadd X dL_ask_155 ?_
  obtain ⟨hi1, hf⟩ := f_c hf
  refine v_iald X (lk1 hL) hi1 dL_ask_156 ?_
  refine v_iload X 14 dL_ask_157 rfl ?_
  refine v_ishr X dL_ask_159 ?_
  refine v_iconst X (v := (nI 1)) (by decide) dL_ask_160 ?_
  refine v_iand X dL_ask_161 ?_
  refine v_iconst X (v := (nI 1)) (by decide) dL_ask_162 ?_
  refine v_icmp_ne (tgt := 225) X dL_ask_163 (by decide) (fun c => ?_) (fun c => ?_)
  · replace hf := f_t c hf
    refine v_sub [0, 1, 2, 3, 4, 5, 6, 7, 8, 9, 10, 11, 12] rfl ?_
    exact t_L_ask_j225 (rk1 := rk1) (rk2 := rk2) (rp1 := rp1) (rp2 := rp2) X Y hL hq8 (by omega) (by omega) (by omega) (by omega) hf hk_kc hk_kx231
  replace hf := f_fn c hf
  refine v_aload_n X 0 dL_ask_166 rfl rfl ?_
  refine v_aload_n X 1 dL_ask_167 rfl rfl ?_
  refine v_aload_n X 2 dL_ask_168 rfl rfl ?_
  refine v_aload_n X 3 dL_ask_169 rfl rfl ?_
  refine v_aload X 4 dL_ask_170 rfl ?_
  refine v_aload X 5 dL_ask_172 rfl ?_
  refine v_aload X 6 dL_ask_174 rfl ?_
  refine v_iload X 10 dL_ask_176 rfl ?_
  refine v_bipush X (v := (nI 16)) (by decide) dL_ask_178 ?_
  refine v_iload X 13 dL_ask_180 rfl ?_
  refine v_imul X dL_ask_182 ?_
  refine v_iload X 14 dL_ask_183 rfl ?_
  refine v_iadd X dL_ask_185 ?_
  refine v_iload X 11 dL_ask_186 rfl ?_
  obtain ⟨o2, ho2, hf⟩ := f_bd hf
  refine v_callLi X [.ref (ad 490), .ref (ad 491), .ref (ad 492), .ref (ad 493), .ref (ad 494), .ref (ad 495), .ref (ad 496), .int x12, .int (((nI 16) * x15) + x16), .int x13] (c_L_arrive X.inj X.ac hL ho2) (va_cwS 10 X.2.2.2.2.1 gL_ask_L_arrive rfl rfl rfl (by decide +kernel) ⟨Nat.le_of_ble_eq_true rfl, Nat.le_of_ble_eq_true rfl⟩) rfl rfl (Nat.le_of_ble_eq_true rfl) ⟨by show _ ≤ 883; omega, by show _ ≤ 7946; omega⟩ dL_ask_188 ?_
  refine v_istore (lv' := [(0, .ref (ad 490)), (1, .ref (ad 491)), (2, .ref (ad 492)), (3, .ref (ad 493)), (4, .ref (ad 494)), (5, .ref (ad 495)), (6, .ref (ad 496)), (8, .ref (ad q8)), (10, .int x10), (11, .int x11), (12, .int x12), (13, .int x13), (14, .int x14), (15, .int x15), (16, .int x16), (17, .int s0), (18, .int o2.1)]) X dL_ask_191 (by decide) rfl ?_
  refine v_iload X 8 dL_ask_193 rfl ?_
  refine v_iload X 16 dL_ask_195 rfl ?_
  refine v_if_le (tgt := 204) X dL_ask_197 (by decide) (fun c => ?_) (fun c => ?_)
  · replace hf := f_t c hf
    refine v_iconst X (v := (nI 0)) (by decide) dL_ask_204 ?_
    refine v_sub [0, 1, 2, 3, 4, 5, 6, 7, 9, 10, 11, 12, 16] rfl ?_
    exact t_L_ask_j205 (rk1 := rk1) (rk2 := rk2) (rp1 := rp1) (rp2 := rp2) X Y hL hq8 (by omega) (by omega) (by omega) (by omega) hf hk_kc hk_kx231
  replace hf := f_f c hf
  refine v_iconst X (v := (nI 1)) (by decide) dL_ask_200 ?_
  refine v_goto (tgt := 205) X dL_ask_201 (by decide) ?_
  refine v_sub [0, 1, 2, 3, 4, 5, 6, 7, 9, 10, 11, 12, 16] rfl ?_
  exact t_L_ask_j205 (rk1 := rk1) (rk2 := rk2) (rp1 := rp1) (rp2 := rp2) X Y hL hq8 (by omega) (by omega) (by omega) (by omega) hf hk_kc hk_kx231
set_option maxRecDepth 100000 in
set_option maxHeartbeats 4000000 in
theorem t_L_ask_j140 {rk1 rk2 rp1 rp2 : Nat} (X : VX p s m args c cL_ask 19 RL wsL_ask D cI cL cS aC N0 ad0 len0 N ad len) (Y : RX meth (some .int)) (hL : LK N len) {q8 : Nat} {x10 : Int32} {x11 : Int32} {x12 : Int32} {x13 : Int32} {x14 : Int32} {x15 : Int32} {x16 : Int32} {w : Wd} {kc : Int32 → Int32 → Wd → Option (Int32 × Wd)} {kx231 : Int32 → Wd → Option (Int32 × Wd)} {out : Int32 × Wd} (hq8 : RW N len q8 8) (hB1 : cells + (2 + rk1) ≤ 883) (hB2 : slots + (18 + rk2) ≤ 7946) (hX1 : 0 + rp1 ≤ rk1) (hX2 : 0 + rp2 ≤ rk2) (hf : m_L_ask_j140 N q8 x10 x11 x12 x13 x14 x15 x16 w kc kx231 = some out) (hk_kc : ∀ (cells slots : Nat) (y10 : Int32) (y14 : Int32) (v : Wd), cells + rk1 ≤ 883 → slots + rk2 ≤ 7946 → kc y10 y14 v = some out → VJ p l e rmL_ask s m args below meth c (MQ below (QZi D N0 ad0 (cellL cI cL cS aC len0) out.1 out.2 s.heap.size) args s 883 7946 (AF N0 ad0 s.heap.size)) 19 D cI cL cS aC N0 ad0 N ad len cells slots v 81 [(0, .ref (ad 490)), (1, .ref (ad 491)), (2, .ref (ad 492)), (3, .ref (ad 493)), (4, .ref (ad 494)), (5, .ref (ad 495)), (6, .ref (ad 496)), (8, .ref (ad q8)), (10, .int y10), (11, .int x11), (12, .int x12), (13, .int x13), (14, .int y14)] []) (hk_kx231 : ∀ (cells slots : Nat) (y10 : Int32) (v : Wd), cells + (0 + rp1) ≤ 883 → slots + (0 + rp2) ≤ 7946 → kx231 y10 v = some out → VJ p l e rmL_ask s m args below meth c (MQ below (QZi D N0 ad0 (cellL cI cL cS aC len0) out.1 out.2 s.heap.size) args s 883 7946 (AF N0 ad0 s.heap.size)) 19 D cI cL cS aC N0 ad0 N ad len cells slots v 231 [(0, .ref (ad 490)), (1, .ref (ad 491)), (2, .ref (ad 492)), (3, .ref (ad 493)), (4, .ref (ad 494)), (5, .ref (ad 495)), (6, .ref (ad 496)), (8, .ref (ad q8)), (10, .int y10), (11, .int x11)] []) : VJ p l e rmL_ask s m args below meth c (MQ below (QZi D N0 ad0 (cellL cI cL cS aC len0) out.1 out.2 s.heap.size) args s 883 7946 (AF N0 ad0 s.heap.size)) 19 D cI cL cS aC N0 ad0 N ad len cells slots w 140 [(0, .ref (ad 490)), (1, .ref (ad 491)), (2, .ref (ad 492)), (3, .ref (ad 493)), (4, .ref (ad 494)), (5, .ref (ad 495)), (6, .ref (ad 496)), (8, .ref (ad q8)), (10, .int x10), (11, .int x11), (12, .int x12), (13, .int x13), (14, .int x14), (15, .int x15), (16, .int x16)] [] := by
  unfold m_L_ask_j140 at hf
  have hN := hL.1
  refine v_iconst X (v := (nI 0)) (by decide) dL_ask_140 ?_
  exact t_L_ask_j141 (rk1 := rk1) (rk2 := rk2) (rp1 := rp1) (rp2 := rp2) X Y hL hq8 (by omega) (by omega) (by omega) (by omega) hf hk_kc hk_kx231
set_option maxRecDepth 100000 in
set_option maxHeartbeats 4000000 in
theorem t_L_ask_L81 {rp1 rp2 : Nat} (X : VX p s m args c cL_ask 19 RL wsL_ask D cI cL cS aC N0 ad0 len0 N ad len) (Y : RX meth (some .int)) (hL : LK N len) {q8 : Nat} {x11 : Int32} {x12 : Int32} {x13 : Int32} {kx231 : Int32 → Wd → Option (Int32 × Wd)} {out : Int32 × Wd} (hq8 : RW N len q8 8) (hk_kx231 : ∀ (cells slots : Nat) (y10 : Int32) (v : Wd), cells + (0 + rp1) ≤ 883 → slots + (0 + rp2) ≤ 7946 → kx231 y10 v = some out → VJ p l e rmL_ask s m args below meth c (MQ below (QZi D N0 ad0 (cellL cI cL cS aC len0) out.1 out.2 s.heap.size) args s 883 7946 (AF N0 ad0 s.heap.size)) 19 D cI cL cS aC N0 ad0 N ad len cells slots v 231 [(0, .ref (ad 490)), (1, .ref (ad 491)), (2, .ref (ad 492)), (3, .ref (ad 493)), (4, .ref (ad 494)), (5, .ref (ad 495)), (6, .ref (ad 496)), (8, .ref (ad q8)), (10, .int y10), (11, .int x11)] []) : ∀ (n : Nat) (cells slots : Nat) (x10 : Int32) (x14 : Int32) (w : Wd), cells + (n * 2 + (0 + rp1)) ≤ 883 → slots + (n * 18 + (0 + rp2)) ≤ 7946 → m_L_ask_L81 N q8 x11 x12 x13 kx231 n x10 x14 w = some out → VJ p l e rmL_ask s m args below meth c (MQ below (QZi D N0 ad0 (cellL cI cL cS aC len0) out.1 out.2 s.heap.size) args s 883 7946 (AF N0 ad0 s.heap.size)) 19 D cI cL cS aC N0 ad0 N ad len cells slots w 81 [(0, .ref (ad 490)), (1, .ref (ad 491)), (2, .ref (ad 492)), (3, .ref (ad 493)), (4, .ref (ad 494)), (5, .ref (ad 495)), (6, .ref (ad 496)), (8, .ref (ad q8)), (10, .int x10), (11, .int x11), (12, .int x12), (13, .int x13), (14, .int x14)] [] := by
  intro n
  induction n with
  | zero => intro cells slots x10 x14 w hB1 hB2 hf; exact f_n hf
  | succ n ih =>
    intro cells slots x10 x14 w hB1 hB2 hf
    rw [m_L_ask_L81] at hf
    have hN := hL.1
    refine v_iload X 12 dL_ask_81 rfl ?_
    refine v_bipush X (v := (nI 48)) (by decide) dL_ask_83 ?_
    refine v_icmp_ge (tgt := 231) X dL_ask_85 (by decide) (fun c => ?_) (fun c => ?_)
    · replace hf := f_t c hf
      refine v_sub [0, 1, 2, 3, 4, 5, 6, 7, 8, 9] rfl ?_
      exact hk_kx231 _ _ _ _ (by omega) (by omega) hf
    replace hf := f_f c hf
    refine v_iload X 12 dL_ask_88 rfl ?_
    refine v_bipush X (v := (nI 12)) (by decide) dL_ask_90 ?_
    refine v_idiv X (by decide) dL_ask_92 ?_
    obtain ⟨x15_1, ex15_1, hf⟩ := f_lt hf
    refine v_top ex15_1 ?_
    refine v_istore (lv' := [(0, .ref (ad 490)), (1, .ref (ad 491)), (2, .ref (ad 492)), (3, .ref (ad 493)), (4, .ref (ad 494)), (5, .ref (ad 495)), (6, .ref (ad 496)), (8, .ref (ad q8)), (10, .int x10), (11, .int x11), (12, .int x12), (13, .int x13), (14, .int x14), (15, .int x15_1)]) X dL_ask_93 (by decide) rfl ?_
    refine v_iload X 12 dL_ask_95 rfl ?_
    refine v_bipush X (v := (nI 12)) (by decide) dL_ask_97 ?_
    refine v_irem X (by decide) dL_ask_99 ?_
    refine v_iconst X (v := (nI 1)) (by decide) dL_ask_100 ?_
    refine v_iadd X dL_ask_101 ?_
    obtain ⟨x16_2, ex16_2, hf⟩ := f_lt hf
    refine v_top ex16_2 ?_
    refine v_istore (lv' := [(0, .ref (ad 490)), (1, .ref (ad 491)), (2, .ref (ad 492)), (3, .ref (ad 493)), (4, .ref (ad 494)), (5, .ref (ad 495)), (6, .ref (ad 496)), (8, .ref (ad q8)), (10, .int x10), (11, .int x11), (12, .int x12), (13, .int x13), (14, .int x14), (15, .int x15_1), (16, .int x16_2)]) X dL_ask_102 (by decide) rfl ?_
    refine v_aload_n X 1 dL_ask_104 rfl rfl ?_
    refine v_iconst X (v := (nI 4)) (by decide) dL_ask_105 ?_
    refine v_iload X 10 dL_ask_106 rfl ?_
    refine v_imul X dL_ask_108 ?_
    refine v_iload X 13 dL_ask_109 rfl ?_
    refine v_iadd X dL_ask_111 ?_
    obtain ⟨hi3, hf⟩ := f_c hf
    refine v_iald X (lk1 hL) hi3 dL_ask_112 ?_
    refine v_iload X 14 dL_ask_113 rfl ?_
    refine v_ishr X dL_ask_115 ?_
    refine v_if_le (tgt := 140) X dL_ask_116 (by decide) (fun c => ?_) (fun c => ?_)
    · replace hf := f_t c hf
      exact t_L_ask_j140 (rk1 := (n * 2 + (0 + rp1))) (rk2 := (n * 18 + (0 + rp2))) (rp1 := rp1) (rp2 := rp2) X Y hL hq8 (by omega) (by omega) (by omega) (by omega) hf ih hk_kx231
    replace hf := f_f c hf
    refine v_aload_n X 1 dL_ask_119 rfl rfl ?_
    refine v_iconst X (v := (nI 4)) (by decide) dL_ask_120 ?_
    refine v_iload X 10 dL_ask_121 rfl ?_
    refine v_imul X dL_ask_123 ?_
    refine v_iload X 13 dL_ask_124 rfl ?_
    refine v_iadd X dL_ask_126 ?_
    obtain ⟨hi4, hf⟩ := f_c hf
    refine v_iald X (lk1 hL) hi4 dL_ask_127 ?_
    refine v_iload X 14 dL_ask_128 rfl ?_
    refine v_ishr X dL_ask_130 ?_
    refine v_iconst X (v := (nI 1)) (by decide) dL_ask_131 ?_
    refine v_iand X dL_ask_132 ?_
    refine v_if_ne (tgt := 140) X dL_ask_133 (by decide) (fun c => ?_) (fun c => ?_)
    · replace hf := f_t c hf
      exact t_L_ask_j140 (rk1 := (n * 2 + (0 + rp1))) (rk2 := (n * 18 + (0 + rp2))) (rp1 := rp1) (rp2 := rp2) X Y hL hq8 (by omega) (by omega) (by omega) (by omega) hf ih hk_kx231
    replace hf := f_fn c hf
    refine v_iconst X (v := (nI 1)) (by decide) dL_ask_136 ?_
    refine v_goto (tgt := 141) X dL_ask_137 (by decide) ?_
    exact t_L_ask_j141 (rk1 := (n * 2 + (0 + rp1))) (rk2 := (n * 18 + (0 + rp2))) (rp1 := rp1) (rp2 := rp2) X Y hL hq8 (by omega) (by omega) (by omega) (by omega) hf ih hk_kx231
set_option maxRecDepth 100000 in
set_option maxHeartbeats 4000000 in
theorem t_L_ask_L54 (X : VX p s m args c cL_ask 19 RL wsL_ask D cI cL cS aC N0 ad0 len0 N ad len) (Y : RX meth (some .int)) (hL : LK N len) {q8 : Nat} {out : Int32 × Wd} (hq8 : RW N len q8 8) : ∀ (n : Nat) (cells slots : Nat) (x10 : Int32) (x11 : Int32) (w : Wd), cells + (n * 98 + 0) ≤ 883 → slots + (n * 882 + 0) ≤ 7946 → m_L_ask_L54 N q8 n x10 x11 w = some out → VJ p l e rmL_ask s m args below meth c (MQ below (QZi D N0 ad0 (cellL cI cL cS aC len0) out.1 out.2 s.heap.size) args s 883 7946 (AF N0 ad0 s.heap.size)) 19 D cI cL cS aC N0 ad0 N ad len cells slots w 54 [(0, .ref (ad 490)), (1, .ref (ad 491)), (2, .ref (ad 492)), (3, .ref (ad 493)), (4, .ref (ad 494)), (5, .ref (ad 495)), (6, .ref (ad 496)), (8, .ref (ad q8)), (10, .int x10), (11, .int x11)] [] := by
  intro n
  induction n with
  | zero => intro cells slots x10 x11 w hB1 hB2 hf; exact f_n hf
  | succ n ih =>
    intro cells slots x10 x11 w hB1 hB2 hf
    rw [m_L_ask_L54] at hf
    have hN := hL.1
    refine v_iload X 9 dL_ask_54 rfl ?_
    refine v_if_lt (tgt := 237) X dL_ask_56 (by decide) (fun c => ?_) (fun c => ?_)
    · replace hf := f_t c hf
      refine v_iload X 8 dL_ask_237 rfl ?_
      exact v_iret X Y (by omega) (by omega) (f_p1 hf) (f_p2 hf) dL_ask_239
    replace hf := f_f c hf
    refine v_aload X 7 dL_ask_59 rfl ?_
    refine v_iload X 9 dL_ask_61 rfl ?_
    obtain ⟨hi1, hf⟩ := f_c hf
    refine v_iald X hq8 hi1 dL_ask_63 ?_
    obtain ⟨x12_2, ex12_2, hf⟩ := f_lt hf
    refine v_top ex12_2 ?_
    refine v_istore (lv' := [(0, .ref (ad 490)), (1, .ref (ad 491)), (2, .ref (ad 492)), (3, .ref (ad 493)), (4, .ref (ad 494)), (5, .ref (ad 495)), (6, .ref (ad 496)), (8, .ref (ad q8)), (10, .int x10), (11, .int x11), (12, .int x12_2)]) X dL_ask_64 (by decide) rfl ?_
    refine v_aload_n X 0 dL_ask_66 rfl rfl ?_
    refine v_bipush X (v := (nI 8)) (by decide) dL_ask_67 ?_
    refine v_iload X 10 dL_ask_69 rfl ?_
    refine v_iadd X dL_ask_71 ?_
    obtain ⟨hi3, hf⟩ := f_c hf
    refine v_iald X (lk0 hL) hi3 dL_ask_72 ?_
    obtain ⟨x13_4, ex13_4, hf⟩ := f_lt hf
    refine v_top ex13_4 ?_
    refine v_istore (lv' := [(0, .ref (ad 490)), (1, .ref (ad 491)), (2, .ref (ad 492)), (3, .ref (ad 493)), (4, .ref (ad 494)), (5, .ref (ad 495)), (6, .ref (ad 496)), (8, .ref (ad q8)), (10, .int x10), (11, .int x11), (12, .int x12_2), (13, .int x13_4)]) X dL_ask_73 (by decide) rfl ?_
    refine v_iconst X (v := (nI 0)) (by decide) dL_ask_75 ?_
    refine v_istore (lv' := [(0, .ref (ad 490)), (1, .ref (ad 491)), (2, .ref (ad 492)), (3, .ref (ad 493)), (4, .ref (ad 494)), (5, .ref (ad 495)), (6, .ref (ad 496)), (8, .ref (ad q8)), (10, .int (nI 0)), (11, .int x11), (12, .int x12_2), (13, .int x13_4)]) X dL_ask_76 (by decide) rfl ?_
    refine v_iconst X (v := (nI 0)) (by decide) dL_ask_78 ?_
    refine v_istore (lv' := [(0, .ref (ad 490)), (1, .ref (ad 491)), (2, .ref (ad 492)), (3, .ref (ad 493)), (4, .ref (ad 494)), (5, .ref (ad 495)), (6, .ref (ad 496)), (8, .ref (ad q8)), (10, .int (nI 0)), (11, .int x11), (12, .int x12_2), (13, .int x13_4), (14, .int (nI 0))]) X dL_ask_79 (by decide) rfl ?_
    obtain ⟨fu, hfu⟩ : ∃ k : Nat, k = 49 := ⟨_, rfl⟩
    rw [← hfu] at hf
    refine t_L_ask_L81 (rp1 := (n * 98 + 0)) (rp2 := (n * 882 + 0)) X Y hL hq8 ?_ _ _ _ _ _ _ ?_ ?_ hf
    · intro cells slots x10_5 w6 hB1 hB2 hf
      refine v_iinc (v := (x11 + (-1 : Int32))) (lv' := [(0, .ref (ad 490)), (1, .ref (ad 491)), (2, .ref (ad 492)), (3, .ref (ad 493)), (4, .ref (ad 494)), (5, .ref (ad 495)), (6, .ref (ad 496)), (8, .ref (ad q8)), (10, .int x10_5), (11, .int (x11 + (-1 : Int32)))]) X 9 dL_ask_231 rfl rfl (by decide) rfl ?_
      refine v_goto (tgt := 54) X dL_ask_234 (by decide) ?_
      exact ih _ _ _ _ _ (by omega) (by omega) hf
    · omega
    · omega
set_option maxRecDepth 100000 in
set_option maxHeartbeats 4000000 in
theorem c_L_ask (hI : Inj N ad) (hA : AC aC N ad) (hL : LK N len) {x7 : Int32} {w : Wd} {out : Int32 × Wd} (hf : m_L_ask N x7 w = some out) : ∀ sz : Nat, Met l yL_ask wsL_ask rmL_ask (va_Pc [.ref (ad 490), .ref (ad 491), .ref (ad 492), .ref (ad 493), .ref (ad 494), .ref (ad 495), .ref (ad 496), .int x7] (PZ sz D (tC cI cL cS) N ad (cellL cI cL cS aC len) w)) (QZi D N ad (cellL cI cL cS aC len) out.1 out.2 sz) 883 7946 (AF N ad sz) := by
  intro sz
  refine mk_metZ (maxL := 19) (ret := (some .int)) RL hI hA hL.n490 (by decide) rfl rfl (Nat.le_of_ble_eq_true rfl) rfl rfl (fun p e s m args below meth c hsz X Y => ?_)
  subst hsz
  unfold m_L_ask at hf
  have hN := hL.1
  refine v_bipush X (v := (nI 8)) (by decide) dL_ask_0 ?_
  obtain ⟨w1, ew1, hf⟩ := f_lt hf
  refine v_newi X (List.mem_of_getElem? (i := 1) rfl) (n := nI 8) (N' := 8) (by decide) rfl (Nat.le_of_ble_eq_true rfl) (by omega) (by show _ ≤ 883; omega) (by show _ ≤ 7946; omega) dL_ask_2 ew1 (fun ad X ha => ?_)
  rw [ha 490 (by omega), ha 491 (by omega), ha 492 (by omega), ha 493 (by omega), ha 494 (by omega), ha 495 (by omega), ha 496 (by omega)]
  have hw1 := RW.new (N := N) (len := len) (m := 8) (by omega)
  replace hL := hL.up (m := 8)
  refine v_astore (lv' := [(0, .ref (ad 490)), (1, .ref (ad 491)), (2, .ref (ad 492)), (3, .ref (ad 493)), (4, .ref (ad 494)), (5, .ref (ad 495)), (6, .ref (ad 496)), (7, .int x7), (8, .ref (ad N))]) X dL_ask_4 (by decide) rfl ?_
  refine v_iconst X (v := (nI 0)) (by decide) dL_ask_6 ?_
  refine v_istore (lv' := [(0, .ref (ad 490)), (1, .ref (ad 491)), (2, .ref (ad 492)), (3, .ref (ad 493)), (4, .ref (ad 494)), (5, .ref (ad 495)), (6, .ref (ad 496)), (7, .int x7), (8, .ref (ad N)), (9, .int (nI 0))]) X dL_ask_7 (by decide) rfl ?_
  refine v_iload X 7 dL_ask_9 rfl ?_
  refine v_istore (lv' := [(0, .ref (ad 490)), (1, .ref (ad 491)), (2, .ref (ad 492)), (3, .ref (ad 493)), (4, .ref (ad 494)), (5, .ref (ad 495)), (6, .ref (ad 496)), (7, .int x7), (8, .ref (ad N)), (9, .int (nI 0)), (10, .int x7)]) X dL_ask_11 (by decide) rfl ?_
  refine v_sub [0, 1, 2, 3, 4, 5, 6, 8, 9, 10] rfl ?_
  refine t_L_ask_L13 X Y hL hw1 ?_ _ _ _ _ _ _ ?_ ?_ hf
  · intro cells slots x9_2 w3 hB1 hB2 hf
    refine v_iconst X (v := (nI 0)) (by decide) dL_ask_40 ?_
    refine v_istore (lv' := [(0, .ref (ad 490)), (1, .ref (ad 491)), (2, .ref (ad 492)), (3, .ref (ad 493)), (4, .ref (ad 494)), (5, .ref (ad 495)), (6, .ref (ad 496)), (8, .ref (ad N)), (9, .int x9_2), (10, .int (nI 0))]) X dL_ask_41 (by decide) rfl ?_
    refine v_aload_n X 0 dL_ask_43 rfl rfl ?_
    refine v_bipush X (v := (nI 7)) (by decide) dL_ask_44 ?_
    refine v_iconst X (v := (nI 0)) (by decide) dL_ask_46 ?_
    obtain ⟨hi4, hf⟩ := f_c hf
    obtain ⟨w5, ew5, hf⟩ := f_lt hf
    refine v_iast X (lk0 hL) hi4 dL_ask_47 ew5 ?_
    refine v_iload X 8 dL_ask_48 rfl ?_
    refine v_iconst X (v := (nI 1)) (by decide) dL_ask_50 ?_
    refine v_isub X dL_ask_51 ?_
    obtain ⟨x11_6, ex11_6, hf⟩ := f_lt hf
    refine v_top ex11_6 ?_
    refine v_istore (lv' := [(0, .ref (ad 490)), (1, .ref (ad 491)), (2, .ref (ad 492)), (3, .ref (ad 493)), (4, .ref (ad 494)), (5, .ref (ad 495)), (6, .ref (ad 496)), (8, .ref (ad N)), (9, .int x9_2), (10, .int (nI 0)), (11, .int x11_6)]) X dL_ask_52 (by decide) rfl ?_
    refine v_sub [0, 1, 2, 3, 4, 5, 6, 7, 9, 10] rfl ?_
    obtain ⟨fu, hfu⟩ : ∃ k : Nat, k = 9 := ⟨_, rfl⟩
    rw [← hfu] at hf
    refine t_L_ask_L54 X Y hL hw1 _ _ _ _ _ _ ?_ ?_ hf
    · omega
    · omega
  · have hFU : FU * 0 = 0 := rfl; omega
  · have hFU : FU * 0 = 0 := rfl; omega
abbrev rmL_isRead : Room := { frames := 6, cells := 3, slots := 22, locals := 147 }
set_option maxRecDepth 100000 in
set_option maxHeartbeats 4000000 in
theorem t_L_isRead_L125 (X : VX p s m args c cL_isRead 12 RL wsL_isRead D cI cL cS aC N0 ad0 len0 N ad len) (Y : RX meth (some .boolean)) (hL : LK N len) {x6 : Int32} {x7 : Int32} {x8 : Int32} {kx165 : Int32 → Int32 → Wd → Option (Int32 × Wd)} {out : Int32 × Wd} (hk_kx165 : ∀ (cells slots : Nat) (y10 : Int32) (y11 : Int32) (v : Wd), cells + 2 ≤ 3 → slots + 18 ≤ 22 → kx165 y10 y11 v = some out → VJ p l e rmL_isRead s m args below meth c (MQ below (QZi D N0 ad0 (cellL cI cL cS aC len0) out.1 out.2 s.heap.size) args s 3 22 (AF N0 ad0 s.heap.size)) 12 D cI cL cS aC N0 ad0 N ad len cells slots v 165 [(0, .ref (ad 472)), (1, .ref (ad 490)), (2, .ref (ad 491)), (3, .ref (ad 492)), (4, .ref (ad 495)), (5, .ref (ad 496)), (6, .int x6), (7, .int x7), (8, .int x8), (10, .int y10), (11, .int y11)] []) : ∀ (n : Nat) (cells slots : Nat) (x10 : Int32) (x11 : Int32) (w : Wd), cells + (n * 0 + 2) ≤ 3 → slots + (n * 0 + 18) ≤ 22 → m_L_isRead_L125 N x6 x7 x8 kx165 n x10 x11 w = some out → VJ p l e rmL_isRead s m args below meth c (MQ below (QZi D N0 ad0 (cellL cI cL cS aC len0) out.1 out.2 s.heap.size) args s 3 22 (AF N0 ad0 s.heap.size)) 12 D cI cL cS aC N0 ad0 N ad len cells slots w 125 [(0, .ref (ad 472)), (1, .ref (ad 490)), (2, .ref (ad 491)), (3, .ref (ad 492)), (4, .ref (ad 495)), (5, .ref (ad 496)), (6, .int x6), (7, .int x7), (8, .int x8), (10, .int x10), (11, .int x11)] [] := by
  intro n
  induction n with
  | zero => intro cells slots x10 x11 w hB1 hB2 hf; exact f_n hf
  | succ n ih =>
    intro cells slots x10 x11 w hB1 hB2 hf
    rw [m_L_isRead_L125] at hf
    have hN := hL.1
    refine v_iload X 10 dL_isRead_125 rfl ?_
    refine v_if_le (tgt := 165) X dL_isRead_127 (by decide) (fun c => ?_) (fun c => ?_)
    · replace hf := f_t c hf
      exact hk_kx165 _ _ _ _ _ (by omega) (by omega) hf
    replace hf := f_f c hf
    refine v_aload X 4 dL_isRead_130 rfl ?_
    refine v_aload X 5 dL_isRead_132 rfl ?_
    refine v_iload X 10 dL_isRead_134 rfl ?_
    refine v_bipush X (v := (nI 16)) (by decide) dL_isRead_136 ?_
    refine v_iload X 7 dL_isRead_138 rfl ?_
    refine v_imul X dL_isRead_140 ?_
    refine v_iload X 8 dL_isRead_141 rfl ?_
    refine v_iadd X dL_isRead_143 ?_
    obtain ⟨o1, ho1, hf⟩ := f_bd hf
    refine v_callSi X [.ref (ad 495), .ref (ad 496), .int x11, .int (((nI 16) * x7) + x8)] (c_L_has X.inj (RW.i (lk5 hL)) (RW.i (lk6 hL)) ho1) (va_cwS 4 X.2.2.2.2.1 gL_isRead_L_has rfl rfl rfl (by decide +kernel) ⟨Nat.le_of_ble_eq_true rfl, Nat.le_of_ble_eq_true rfl⟩) rfl rfl (Nat.le_of_ble_eq_true rfl) ⟨by show _ ≤ 3; omega, by show _ ≤ 22; omega⟩ dL_isRead_144 ?_
    refine v_if_ne (tgt := 165) X dL_isRead_147 (by decide) (fun c => ?_) (fun c => ?_)
    · replace hf := f_t c hf
      exact hk_kx165 _ _ _ _ _ (by omega) (by omega) hf
    replace hf := f_fn c hf
    refine v_aload_n X 1 dL_isRead_150 rfl rfl ?_
    refine v_bipush X (v := (nI 8)) (by decide) dL_isRead_151 ?_
    refine v_iload X 10 dL_isRead_153 rfl ?_
    refine v_iadd X dL_isRead_155 ?_
    obtain ⟨hi2, hf⟩ := f_c hf
    refine v_iald X (lk0 hL) hi2 dL_isRead_156 ?_
    obtain ⟨x11_3, ex11_3, hf⟩ := f_lt hf
    refine v_top ex11_3 ?_
    refine v_istore (lv' := [(0, .ref (ad 472)), (1, .ref (ad 490)), (2, .ref (ad 491)), (3, .ref (ad 492)), (4, .ref (ad 495)), (5, .ref (ad 496)), (6, .int x6), (7, .int x7), (8, .int x8), (10, .int x10), (11, .int x11_3)]) X dL_isRead_157 (by decide) rfl ?_
    refine v_iinc (v := (x10 + (nI 1))) (lv' := [(0, .ref (ad 472)), (1, .ref (ad 490)), (2, .ref (ad 491)), (3, .ref (ad 492)), (4, .ref (ad 495)), (5, .ref (ad 496)), (6, .int x6), (7, .int x7), (8, .int x8), (10, .int (x10 + (nI 1))), (11, .int x11_3)]) X 9 dL_isRead_159 rfl rfl (by decide) rfl ?_
    refine v_goto (tgt := 125) X dL_isRead_162 (by decide) ?_
    exact ih _ _ _ _ _ (by omega) (by omega) hf
set_option maxRecDepth 100000 in
set_option maxHeartbeats 4000000 in
theorem t_L_isRead_j231 (X : VX p s m args c cL_isRead 12 RL wsL_isRead D cI cL cS aC N0 ad0 len0 N ad len) (Y : RX meth (some .boolean)) (hL : LK N len) {x6 : Int32} {x7 : Int32} {x8 : Int32} {x10 : Int32} {w : Wd} {out : Int32 × Wd} (hB1 : cells + 0 ≤ 3) (hB2 : slots + 0 ≤ 22) (hf : m_L_isRead_j231 N x6 x7 x8 x10 w = some out) : VJ p l e rmL_isRead s m args below meth c (MQ below (QZi D N0 ad0 (cellL cI cL cS aC len0) out.1 out.2 s.heap.size) args s 3 22 (AF N0 ad0 s.heap.size)) 12 D cI cL cS aC N0 ad0 N ad len cells slots w 231 [(0, .ref (ad 472)), (6, .int x6), (7, .int x7), (8, .int x8), (10, .int x10)] [] := by
  unfold m_L_isRead_j231 at hf
  have hN := hL.1
  refine v_aload_n X 0 dL_isRead_231 rfl rfl ?_
  refine v_iload X 1 dL_isRead_232 rfl ?_
  refine v_iload X 2 dL_isRead_234 rfl ?_
  refine v_iload X 3 dL_isRead_236 rfl ?_
  obtain ⟨o1, ho1, hf⟩ := f_bd hf
  obtain ⟨w2, ew2, hf⟩ := f_lt hf
  refine v_callCi X hL.n490 [.int x6, .int x7, .int x8] (c_X7_read X.inC ho1) (cwV 3 X.2.2.2.2.1 gL_isRead_X7_read rfl rfl rfl (by decide +kernel) ⟨Nat.le_of_ble_eq_true rfl, Nat.le_of_ble_eq_true rfl⟩) rfl rfl (Nat.le_of_ble_eq_true rfl) ⟨by show _ ≤ 3; omega, by show _ ≤ 22; omega⟩ dL_isRead_238 ew2 ?_
  refine v_iload X 4 dL_isRead_241 rfl ?_
  refine v_icmp_ne (tgt := 250) X dL_isRead_243 (by decide) (fun c => ?_) (fun c => ?_)
  · replace hf := f_t c hf
    refine v_iconst X (v := (nI 0)) (by decide) dL_isRead_250 ?_
    exact v_bret X Y (by omega) (by omega) (Eq.trans (by decide : (nI 0) &&& 1 = (nI 0)) (f_p1 hf)) (f_p2 hf) dL_isRead_251
  replace hf := f_fn c hf
  refine v_iconst X (v := (nI 1)) (by decide) dL_isRead_246 ?_
  refine v_goto (tgt := 251) X dL_isRead_247 (by decide) ?_
  exact v_bret X Y (by omega) (by omega) (Eq.trans (by decide : (nI 1) &&& 1 = (nI 1)) (f_p1 hf)) (f_p2 hf) dL_isRead_251
set_option maxRecDepth 100000 in
set_option maxHeartbeats 4000000 in
theorem t_L_isRead_j165 (X : VX p s m args c cL_isRead 12 RL wsL_isRead D cI cL cS aC N0 ad0 len0 N ad len) (Y : RX meth (some .boolean)) (hL : LK N len) {x6 : Int32} {x7 : Int32} {x8 : Int32} {x10 : Int32} {x11 : Int32} {w : Wd} {out : Int32 × Wd} (hB1 : cells + 2 ≤ 3) (hB2 : slots + 18 ≤ 22) (hf : m_L_isRead_j165 N x6 x7 x8 x10 x11 w = some out) : VJ p l e rmL_isRead s m args below meth c (MQ below (QZi D N0 ad0 (cellL cI cL cS aC len0) out.1 out.2 s.heap.size) args s 3 22 (AF N0 ad0 s.heap.size)) 12 D cI cL cS aC N0 ad0 N ad len cells slots w 165 [(0, .ref (ad 472)), (1, .ref (ad 490)), (2, .ref (ad 491)), (3, .ref (ad 492)), (4, .ref (ad 495)), (5, .ref (ad 496)), (6, .int x6), (7, .int x7), (8, .int x8), (10, .int x10), (11, .int x11)] [] := by
  unfold m_L_isRead_j165 at hf
  have hN := hL.1
  refine v_aload X 4 dL_isRead_165 rfl ?_
  refine v_aload X 5 dL_isRead_167 rfl ?_
  refine v_iload X 10 dL_isRead_169 rfl ?_
  refine v_bipush X (v := (nI 16)) (by decide) dL_isRead_171 ?_
  refine v_iload X 7 dL_isRead_173 rfl ?_
  refine v_imul X dL_isRead_175 ?_
  refine v_iload X 8 dL_isRead_176 rfl ?_
  refine v_iadd X dL_isRead_178 ?_
  obtain ⟨o1, ho1, hf⟩ := f_bd hf
  refine v_callSi X [.ref (ad 495), .ref (ad 496), .int x11, .int (((nI 16) * x7) + x8)] (c_L_has X.inj (RW.i (lk5 hL)) (RW.i (lk6 hL)) ho1) (va_cwS 4 X.2.2.2.2.1 gL_isRead_L_has rfl rfl rfl (by decide +kernel) ⟨Nat.le_of_ble_eq_true rfl, Nat.le_of_ble_eq_true rfl⟩) rfl rfl (Nat.le_of_ble_eq_true rfl) ⟨by show _ ≤ 3; omega, by show _ ≤ 22; omega⟩ dL_isRead_179 ?_
  refine v_if_ne (tgt := 206) X dL_isRead_182 (by decide) (fun c => ?_) (fun c => ?_)
  · replace hf := f_t c hf
    refine v_iload X 9 dL_isRead_206 rfl ?_
    refine v_if_le (tgt := 231) X dL_isRead_208 (by decide) (fun c => ?_) (fun c => ?_)
    · replace hf := f_t c hf
      refine v_sub [0, 6, 7, 8, 9] rfl ?_
      exact t_L_isRead_j231 X Y hL (by omega) (by omega) hf
    replace hf := f_f c hf
    refine v_aload_n X 1 dL_isRead_211 rfl rfl ?_
    refine v_aload_n X 2 dL_isRead_212 rfl rfl ?_
    refine v_aload_n X 3 dL_isRead_213 rfl rfl ?_
    refine v_aload X 4 dL_isRead_214 rfl ?_
    refine v_aload X 5 dL_isRead_216 rfl ?_
    refine v_iload X 6 dL_isRead_218 rfl ?_
    refine v_bipush X (v := (nI 16)) (by decide) dL_isRead_220 ?_
    refine v_iload X 7 dL_isRead_222 rfl ?_
    refine v_imul X dL_isRead_224 ?_
    refine v_iload X 8 dL_isRead_225 rfl ?_
    refine v_iadd X dL_isRead_227 ?_
    obtain ⟨o2, ho2, hf⟩ := f_bd hf
    refine v_callLv X [.ref (ad 490), .ref (ad 491), .ref (ad 492), .ref (ad 495), .ref (ad 496), .int x6, .int (((nI 16) * x7) + x8)] (c_L_keep X.inj X.ac hL ho2) (va_cwS 7 X.2.2.2.2.1 gL_isRead_L_keep rfl rfl rfl (by decide +kernel) ⟨Nat.le_of_ble_eq_true rfl, Nat.le_of_ble_eq_true rfl⟩) rfl rfl (Nat.le_of_ble_eq_true rfl) ⟨by show _ ≤ 3; omega, by show _ ≤ 22; omega⟩ dL_isRead_228 ?_
    refine v_sub [0, 6, 7, 8, 9] rfl ?_
    exact t_L_isRead_j231 X Y hL (by omega) (by omega) hf
  replace hf := f_fn c hf
  refine v_aload_n X 0 dL_isRead_185 rfl rfl ?_
  refine v_iload X 6 dL_isRead_186 rfl ?_
  refine v_iload X 7 dL_isRead_188 rfl ?_
  refine v_iload X 8 dL_isRead_190 rfl ?_
  obtain ⟨o3, ho3, hf⟩ := f_bd hf
  obtain ⟨w4, ew4, hf⟩ := f_lt hf
  refine v_callCi X hL.n490 [.int x6, .int x7, .int x8] (c_X7_read X.inC ho3) (cwV 3 X.2.2.2.2.1 gL_isRead_X7_read rfl rfl rfl (by decide +kernel) ⟨Nat.le_of_ble_eq_true rfl, Nat.le_of_ble_eq_true rfl⟩) rfl rfl (Nat.le_of_ble_eq_true rfl) ⟨by show _ ≤ 3; omega, by show _ ≤ 22; omega⟩ dL_isRead_192 ew4 ?_
  refine v_bipush X (v := (-9 : Int32)) (by decide) dL_isRead_195 ?_
  refine v_icmp_ne (tgt := 204) X dL_isRead_197 (by decide) (fun c => ?_) (fun c => ?_)
  · replace hf := f_t c hf
    refine v_iconst X (v := (nI 0)) (by decide) dL_isRead_204 ?_
    exact v_bret X Y (by omega) (by omega) (Eq.trans (by decide : (nI 0) &&& 1 = (nI 0)) (f_p1 hf)) (f_p2 hf) dL_isRead_205
  replace hf := f_fn c hf
  refine v_iconst X (v := (nI 1)) (by decide) dL_isRead_200 ?_
  refine v_goto (tgt := 205) X dL_isRead_201 (by decide) ?_
  exact v_bret X Y (by omega) (by omega) (Eq.trans (by decide : (nI 1) &&& 1 = (nI 1)) (f_p1 hf)) (f_p2 hf) dL_isRead_205
set_option maxRecDepth 100000 in
set_option maxHeartbeats 4000000 in
theorem c_L_isRead (hI : Inj N ad) (hA : AC aC N ad) (hL : LK N len) {x6 : Int32} {x7 : Int32} {x8 : Int32} {w : Wd} {out : Int32 × Wd} (hf : m_L_isRead N x6 x7 x8 w = some out) : ∀ sz : Nat, Met l yL_isRead wsL_isRead rmL_isRead (va_Pc [.ref (ad 472), .ref (ad 490), .ref (ad 491), .ref (ad 492), .ref (ad 495), .ref (ad 496), .int x6, .int x7, .int x8] (PZ sz D (tC cI cL cS) N ad (cellL cI cL cS aC len) w)) (QZi D N ad (cellL cI cL cS aC len) out.1 out.2 sz) 3 22 (AF N ad sz) := by
  intro sz
  refine mk_metZ (maxL := 12) (ret := (some .boolean)) RL hI hA hL.n490 (by decide) rfl rfl (Nat.le_of_ble_eq_true rfl) rfl rfl (fun p e s m args below meth c hsz X Y => ?_)
  subst hsz
  unfold m_L_isRead at hf
  have hN := hL.1
  refine v_iconst X (v := (nI 4)) (by decide) dL_isRead_0 ?_
  obtain ⟨w1, ew1, hf⟩ := f_lt hf
  refine v_newi X (List.mem_of_getElem? (i := 1) rfl) (n := nI 4) (N' := 4) (by decide) rfl (Nat.le_of_ble_eq_true rfl) (by omega) (by show _ ≤ 3; omega) (by show _ ≤ 22; omega) dL_isRead_1 ew1 (fun ad X ha => ?_)
  rw [ha 472 (by omega), ha 490 (by omega), ha 491 (by omega), ha 492 (by omega), ha 495 (by omega), ha 496 (by omega)]
  have hw1 := RW.new (N := N) (len := len) (m := 4) (by omega)
  replace hL := hL.up (m := 4)
  refine v_astore (lv' := [(0, .ref (ad 472)), (1, .ref (ad 490)), (2, .ref (ad 491)), (3, .ref (ad 492)), (4, .ref (ad 495)), (5, .ref (ad 496)), (6, .int x6), (7, .int x7), (8, .int x8), (9, .ref (ad N))]) X dL_isRead_3 (by decide) rfl ?_
  refine v_iload X 8 dL_isRead_5 rfl ?_
  refine v_aload_n X 1 dL_isRead_7 rfl rfl ?_
  refine v_bipush X (v := (nI 20)) (by decide) dL_isRead_8 ?_
  refine v_iload X 7 dL_isRead_10 rfl ?_
  refine v_iadd X dL_isRead_12 ?_
  obtain ⟨hi2, hf⟩ := f_c hf
  refine v_iald X (lk0 hL) hi2 dL_isRead_13 ?_
  refine v_icmp_le (tgt := 78) X dL_isRead_14 (by decide) (fun c => ?_) (fun c => ?_)
  · replace hf := f_t c hf
    refine v_aload_n X 2 dL_isRead_78 rfl rfl ?_
    refine v_aload_n X 3 dL_isRead_79 rfl rfl ?_
    refine v_iload X 6 dL_isRead_80 rfl ?_
    refine v_aload X 9 dL_isRead_82 rfl ?_
    obtain ⟨o3, ho3, hf⟩ := f_bd hf
    refine v_callSv X [.ref (ad 491), .ref (ad 492), .int x6, .ref (ad N)] (c_L_serve X.inj (RW.i (lk1 hL)) (RW.i (lk2 hL)) (RW.i hw1) ho3) (va_cwS 4 X.2.2.2.2.1 gL_isRead_L_serve rfl rfl rfl (by decide +kernel) ⟨Nat.le_of_ble_eq_true rfl, Nat.le_of_ble_eq_true rfl⟩) rfl rfl (Nat.le_of_ble_eq_true rfl) ⟨by show _ ≤ 3; omega, by show _ ≤ 22; omega⟩ dL_isRead_84 ?_
    refine v_iload X 8 dL_isRead_87 rfl ?_
    refine v_aload X 9 dL_isRead_89 rfl ?_
    refine v_iload X 7 dL_isRead_91 rfl ?_
    obtain ⟨hi4, hf⟩ := f_c hf
    refine v_iald X hw1 hi4 dL_isRead_93 ?_
    refine v_icmp_le (tgt := 118) X dL_isRead_94 (by decide) (fun c => ?_) (fun c => ?_)
    · replace hf := f_t c hf
      refine v_iconst X (v := (nI 0)) (by decide) dL_isRead_118 ?_
      refine v_istore (lv' := [(0, .ref (ad 472)), (1, .ref (ad 490)), (2, .ref (ad 491)), (3, .ref (ad 492)), (4, .ref (ad 495)), (5, .ref (ad 496)), (6, .int x6), (7, .int x7), (8, .int x8), (9, .ref (ad N)), (10, .int (nI 0))]) X dL_isRead_119 (by decide) rfl ?_
      refine v_iload X 6 dL_isRead_121 rfl ?_
      refine v_istore (lv' := [(0, .ref (ad 472)), (1, .ref (ad 490)), (2, .ref (ad 491)), (3, .ref (ad 492)), (4, .ref (ad 495)), (5, .ref (ad 496)), (6, .int x6), (7, .int x7), (8, .int x8), (9, .ref (ad N)), (10, .int (nI 0)), (11, .int x6)]) X dL_isRead_123 (by decide) rfl ?_
      refine v_sub [0, 1, 2, 3, 4, 5, 6, 7, 8, 10, 11] rfl ?_
      refine t_L_isRead_L125 X Y hL ?_ _ _ _ _ _ _ ?_ ?_ hf
      · intro cells slots x10_5 x11_6 w7 hB1 hB2 hf
        exact t_L_isRead_j165 X Y hL (by omega) (by omega) hf
      · have hFU : FU * 0 = 0 := rfl; omega
      · have hFU : FU * 0 = 0 := rfl; omega
    replace hf := f_f c hf
    refine v_aload_n X 0 dL_isRead_97 rfl rfl ?_
    refine v_iload X 6 dL_isRead_98 rfl ?_
    refine v_iload X 7 dL_isRead_100 rfl ?_
    refine v_iload X 8 dL_isRead_102 rfl ?_
    obtain ⟨o8, ho8, hf⟩ := f_bd hf
    obtain ⟨w9, ew9, hf⟩ := f_lt hf
    refine v_callCi X hL.n490 [.int x6, .int x7, .int x8] (c_X7_read X.inC ho8) (cwV 3 X.2.2.2.2.1 gL_isRead_X7_read rfl rfl rfl (by decide +kernel) ⟨Nat.le_of_ble_eq_true rfl, Nat.le_of_ble_eq_true rfl⟩) rfl rfl (Nat.le_of_ble_eq_true rfl) ⟨by show _ ≤ 3; omega, by show _ ≤ 22; omega⟩ dL_isRead_104 ew9 ?_
    refine v_bipush X (v := (-2 : Int32)) (by decide) dL_isRead_107 ?_
    refine v_icmp_ne (tgt := 116) X dL_isRead_109 (by decide) (fun c => ?_) (fun c => ?_)
    · replace hf := f_t c hf
      refine v_iconst X (v := (nI 0)) (by decide) dL_isRead_116 ?_
      exact v_bret X Y (by omega) (by omega) (Eq.trans (by decide : (nI 0) &&& 1 = (nI 0)) (f_p1 hf)) (f_p2 hf) dL_isRead_117
    replace hf := f_fn c hf
    refine v_iconst X (v := (nI 1)) (by decide) dL_isRead_112 ?_
    refine v_goto (tgt := 117) X dL_isRead_113 (by decide) ?_
    exact v_bret X Y (by omega) (by omega) (Eq.trans (by decide : (nI 1) &&& 1 = (nI 1)) (f_p1 hf)) (f_p2 hf) dL_isRead_117
  replace hf := f_f c hf
  refine v_aload_n X 0 dL_isRead_17 rfl rfl ?_
  refine v_iload X 6 dL_isRead_18 rfl ?_
  refine v_iload X 7 dL_isRead_20 rfl ?_
  refine v_iload X 8 dL_isRead_22 rfl ?_
  obtain ⟨o10, ho10, hf⟩ := f_bd hf
  obtain ⟨w11, ew11, hf⟩ := f_lt hf
  refine v_callCi X hL.n490 [.int x6, .int x7, .int x8] (c_X7_read X.inC ho10) (cwV 3 X.2.2.2.2.1 gL_isRead_X7_read rfl rfl rfl (by decide +kernel) ⟨Nat.le_of_ble_eq_true rfl, Nat.le_of_ble_eq_true rfl⟩) rfl rfl (Nat.le_of_ble_eq_true rfl) ⟨by show _ ≤ 3; omega, by show _ ≤ 22; omega⟩ dL_isRead_24 ew11 ?_
  refine v_iconst X (v := (-1 : Int32)) (by decide) dL_isRead_27 ?_
  refine v_icmp_ne (tgt := 76) X dL_isRead_28 (by decide) (fun c => ?_) (fun c => ?_)
  · replace hf := f_t c hf
    refine v_iconst X (v := (nI 0)) (by decide) dL_isRead_76 ?_
    exact v_bret X Y (by omega) (by omega) (Eq.trans (by decide : (nI 0) &&& 1 = (nI 0)) (f_p1 hf)) (f_p2 hf) dL_isRead_77
  replace hf := f_fn c hf
  refine v_aload_n X 0 dL_isRead_31 rfl rfl ?_
  refine v_iload X 6 dL_isRead_32 rfl ?_
  refine v_iload X 7 dL_isRead_34 rfl ?_
  refine v_iload X 8 dL_isRead_36 rfl ?_
  obtain ⟨o12, ho12, hf⟩ := f_bd hf
  obtain ⟨w13, ew13, hf⟩ := f_lt hf
  refine v_callCi X hL.n490 [.int x6, .int x7, .int x8] (c_X7_status X.inC ho12) (cwV 3 X.2.2.2.2.1 gL_isRead_X7_status rfl rfl rfl (by decide +kernel) ⟨Nat.le_of_ble_eq_true rfl, Nat.le_of_ble_eq_true rfl⟩) rfl rfl (Nat.le_of_ble_eq_true rfl) ⟨by show _ ≤ 3; omega, by show _ ≤ 22; omega⟩ dL_isRead_38 ew13 ?_
  refine v_iconst X (v := (-1 : Int32)) (by decide) dL_isRead_41 ?_
  refine v_icmp_ne (tgt := 76) X dL_isRead_42 (by decide) (fun c => ?_) (fun c => ?_)
  · replace hf := f_t c hf
    refine v_iconst X (v := (nI 0)) (by decide) dL_isRead_76 ?_
    exact v_bret X Y (by omega) (by omega) (Eq.trans (by decide : (nI 0) &&& 1 = (nI 0)) (f_p1 hf)) (f_p2 hf) dL_isRead_77
  replace hf := f_fn c hf
  refine v_aload_n X 0 dL_isRead_45 rfl rfl ?_
  refine v_iload X 6 dL_isRead_46 rfl ?_
  refine v_iload X 7 dL_isRead_48 rfl ?_
  refine v_iload X 8 dL_isRead_50 rfl ?_
  obtain ⟨o14, ho14, hf⟩ := f_bd hf
  obtain ⟨w15, ew15, hf⟩ := f_lt hf
  refine v_callCi X hL.n490 [.int x6, .int x7, .int x8] (c_X7_missing X.inC ho14) (cwV 3 X.2.2.2.2.1 gL_isRead_X7_missing rfl rfl rfl (by decide +kernel) ⟨Nat.le_of_ble_eq_true rfl, Nat.le_of_ble_eq_true rfl⟩) rfl rfl (Nat.le_of_ble_eq_true rfl) ⟨by show _ ≤ 3; omega, by show _ ≤ 22; omega⟩ dL_isRead_52 ew15 ?_
  refine v_iconst X (v := (-1 : Int32)) (by decide) dL_isRead_55 ?_
  refine v_icmp_ne (tgt := 76) X dL_isRead_56 (by decide) (fun c => ?_) (fun c => ?_)
  · replace hf := f_t c hf
    refine v_iconst X (v := (nI 0)) (by decide) dL_isRead_76 ?_
    exact v_bret X Y (by omega) (by omega) (Eq.trans (by decide : (nI 0) &&& 1 = (nI 0)) (f_p1 hf)) (f_p2 hf) dL_isRead_77
  replace hf := f_fn c hf
  refine v_aload_n X 0 dL_isRead_59 rfl rfl ?_
  refine v_iload X 7 dL_isRead_60 rfl ?_
  refine v_iload X 8 dL_isRead_62 rfl ?_
  refine v_iconst X (v := (nI 0)) (by decide) dL_isRead_64 ?_
  obtain ⟨o16, ho16, hf⟩ := f_bd hf
  refine v_callCi X hL.n490 [.int x7, .int x8, .int (nI 0)] (c_X7_cause X.inC ho16) (cwV 3 X.2.2.2.2.1 gL_isRead_X7_cause rfl rfl rfl (by decide +kernel) ⟨Nat.le_of_ble_eq_true rfl, Nat.le_of_ble_eq_true rfl⟩) rfl rfl (Nat.le_of_ble_eq_true rfl) ⟨by show _ ≤ 3; omega, by show _ ≤ 22; omega⟩ dL_isRead_65 wj_self.symm ?_
  refine v_iconst X (v := (-1 : Int32)) (by decide) dL_isRead_68 ?_
  refine v_icmp_ne (tgt := 76) X dL_isRead_69 (by decide) (fun c => ?_) (fun c => ?_)
  · replace hf := f_t c hf
    refine v_iconst X (v := (nI 0)) (by decide) dL_isRead_76 ?_
    exact v_bret X Y (by omega) (by omega) (Eq.trans (by decide : (nI 0) &&& 1 = (nI 0)) (f_p1 hf)) (f_p2 hf) dL_isRead_77
  replace hf := f_fn c hf
  refine v_iconst X (v := (nI 1)) (by decide) dL_isRead_72 ?_
  refine v_goto (tgt := 77) X dL_isRead_73 (by decide) ?_
  exact v_bret X Y (by omega) (by omega) (Eq.trans (by decide : (nI 1) &&& 1 = (nI 1)) (f_p1 hf)) (f_p2 hf) dL_isRead_77
end WALK73
