/-! ===== the bytecode does what the model says (printed by wip/p27/tools/genL.py) ===== -/
section WALK72
variable {p : Program} {l : Launch} {e : Env} {s : State} {m : MethodId} {args : Array Value} {below : List Frame} {meth : Method} {c : Code} {D : va_G} {cI cL cS : ClassId} {ad : Nat → Nat} {aC ad0 : Nat → Nat} {N N0 : Nat} {len len0 : Nat → Nat} {cells slots : Nat}
abbrev rmL_isSo : Room := { frames := 5, cells := 1, slots := 4, locals := 105 }
set_option maxRecDepth 100000 in
set_option maxHeartbeats 4000000 in
theorem t_L_isSo_j335 {rk1 rk2 rp1 rp2 : Nat} (X : VX p s m args c cL_isSo 20 RL wsL_isSo D cI cL cS aC N0 ad0 len0 N ad len) (Y : RX meth (some .boolean)) (hL : LK N len) {q10 : Nat} {x8 : Int32} {x11 : Int32} {x12 : Int32} {x13 : Int32} {x14 : Int32} {x15 : Int32} {x16 : Int32} {s0 : Int32} {w : Wd} {kc : Int32 → Int32 → Int32 → Wd → Option (Int32 × Wd)} {kx343 : Int32 → Int32 → Wd → Option (Int32 × Wd)} {out : Int32 × Wd} (hq10 : RW N len q10 4) (hB1 : cells + (0 + rk1) ≤ 1) (hB2 : slots + (0 + rk2) ≤ 4) (hX1 : 0 + rp1 ≤ rk1) (hX2 : 0 + rp2 ≤ rk2) (hf : m_L_isSo_j335 N q10 x8 x11 x12 x13 x14 x15 x16 s0 w kc kx343 = some out) (hk_kc : ∀ (cells slots : Nat) (y9 : Int32) (y14 : Int32) (y16 : Int32) (v : Wd), cells + rk1 ≤ 1 → slots + rk2 ≤ 4 → kc y9 y14 y16 v = some out → VJ p l e rmL_isSo s m args below meth c (MQ below (QZi D N0 ad0 (cellL cI cL cS aC len0) out.1 out.2 s.heap.size) args s 1 4 (AF N0 ad0 s.heap.size)) 20 D cI cL cS aC N0 ad0 N ad len cells slots v 207 [(0, .ref (ad 472)), (1, .ref (ad 490)), (2, .ref (ad 491)), (3, .ref (ad 492)), (4, .ref (ad 493)), (5, .ref (ad 494)), (6, .ref (ad 495)), (7, .ref (ad 496)), (8, .int x8), (9, .int y9), (10, .ref (ad q10)), (11, .int x11), (12, .int x12), (13, .int x13), (14, .int y14), (15, .int x15), (16, .int y16)] []) (hk_kx343 : ∀ (cells slots : Nat) (y9 : Int32) (y14 : Int32) (v : Wd), cells + (0 + rp1) ≤ 1 → slots + (0 + rp2) ≤ 4 → kx343 y9 y14 v = some out → VJ p l e rmL_isSo s m args below meth c (MQ below (QZi D N0 ad0 (cellL cI cL cS aC len0) out.1 out.2 s.heap.size) args s 1 4 (AF N0 ad0 s.heap.size)) 20 D cI cL cS aC N0 ad0 N ad len cells slots v 343 [(0, .ref (ad 472)), (1, .ref (ad 490)), (2, .ref (ad 491)), (3, .ref (ad 492)), (4, .ref (ad 493)), (5, .ref (ad 494)), (6, .ref (ad 495)), (7, .ref (ad 496)), (8, .int x8), (9, .int y9), (10, .ref (ad q10)), (11, .int x11), (12, .int x12), (13, .int x13), (14, .int y14), (15, .int x15)] []) : VJ p l e rmL_isSo s m args below meth c (MQ below (QZi D N0 ad0 (cellL cI cL cS aC len0) out.1 out.2 s.heap.size) args s 1 4 (AF N0 ad0 s.heap.size)) 20 D cI cL cS aC N0 ad0 N ad len cells slots w 335 [(0, .ref (ad 472)), (1, .ref (ad 490)), (2, .ref (ad 491)), (3, .ref (ad 492)), (4, .ref (ad 493)), (5, .ref (ad 494)), (6, .ref (ad 495)), (7, .ref (ad 496)), (8, .int x8), (10, .ref (ad q10)), (11, .int x11), (12, .int x12), (13, .int x13), (14, .int x14), (15, .int x15), (16, .int x16)] [.int s0] := by
  unfold m_L_isSo_j335 at hf
  have hN := hL.1
  refine v_istore (lv' := [(0, .ref (ad 472)), (1, .ref (ad 490)), (2, .ref (ad 491)), (3, .ref (ad 492)), (4, .ref (ad 493)), (5, .ref (ad 494)), (6, .ref (ad 495)), (7, .ref (ad 496)), (8, .int x8), (9, .int s0), (10, .ref (ad q10)), (11, .int x11), (12, .int x12), (13, .int x13), (14, .int x14), (15, .int x15), (16, .int x16)]) X dL_isSo_335 (by decide) rfl ?_
  refine v_iinc (v := (x16 + (nI 1))) (lv' := [(0, .ref (ad 472)), (1, .ref (ad 490)), (2, .ref (ad 491)), (3, .ref (ad 492)), (4, .ref (ad 493)), (5, .ref (ad 494)), (6, .ref (ad 495)), (7, .ref (ad 496)), (8, .int x8), (9, .int s0), (10, .ref (ad q10)), (11, .int x11), (12, .int x12), (13, .int x13), (14, .int x14), (15, .int x15), (16, .int (x16 + (nI 1)))]) X 16 dL_isSo_337 rfl rfl (by decide) rfl ?_
  refine v_goto (tgt := 207) X dL_isSo_340 (by decide) ?_
  exact hk_kc _ _ _ _ _ _ (by omega) (by omega) hf
set_option maxRecDepth 100000 in
set_option maxHeartbeats 4000000 in
theorem t_L_isSo_j330 {rk1 rk2 rp1 rp2 : Nat} (X : VX p s m args c cL_isSo 20 RL wsL_isSo D cI cL cS aC N0 ad0 len0 N ad len) (Y : RX meth (some .boolean)) (hL : LK N len) {q10 : Nat} {x8 : Int32} {x11 : Int32} {x12 : Int32} {x13 : Int32} {x14 : Int32} {x15 : Int32} {x16 : Int32} {w : Wd} {kc : Int32 → Int32 → Int32 → Wd → Option (Int32 × Wd)} {kx343 : Int32 → Int32 → Wd → Option (Int32 × Wd)} {out : Int32 × Wd} (hq10 : RW N len q10 4) (hB1 : cells + (0 + rk1) ≤ 1) (hB2 : slots + (0 + rk2) ≤ 4) (hX1 : 0 + rp1 ≤ rk1) (hX2 : 0 + rp2 ≤ rk2) (hf : m_L_isSo_j330 N q10 x8 x11 x12 x13 x14 x15 x16 w kc kx343 = some out) (hk_kc : ∀ (cells slots : Nat) (y9 : Int32) (y14 : Int32) (y16 : Int32) (v : Wd), cells + rk1 ≤ 1 → slots + rk2 ≤ 4 → kc y9 y14 y16 v = some out → VJ p l e rmL_isSo s m args below meth c (MQ below (QZi D N0 ad0 (cellL cI cL cS aC len0) out.1 out.2 s.heap.size) args s 1 4 (AF N0 ad0 s.heap.size)) 20 D cI cL cS aC N0 ad0 N ad len cells slots v 207 [(0, .ref (ad 472)), (1, .ref (ad 490)), (2, .ref (ad 491)), (3, .ref (ad 492)), (4, .ref (ad 493)), (5, .ref (ad 494)), (6, .ref (ad 495)), (7, .ref (ad 496)), (8, .int x8), (9, .int y9), (10, .ref (ad q10)), (11, .int x11), (12, .int x12), (13, .int x13), (14, .int y14), (15, .int x15), (16, .int y16)] []) (hk_kx343 : ∀ (cells slots : Nat) (y9 : Int32) (y14 : Int32) (v : Wd), cells + (0 + rp1) ≤ 1 → slots + (0 + rp2) ≤ 4 → kx343 y9 y14 v = some out → VJ p l e rmL_isSo s m args below meth c (MQ below (QZi D N0 ad0 (cellL cI cL cS aC len0) out.1 out.2 s.heap.size) args s 1 4 (AF N0 ad0 s.heap.size)) 20 D cI cL cS aC N0 ad0 N ad len cells slots v 343 [(0, .ref (ad 472)), (1, .ref (ad 490)), (2, .ref (ad 491)), (3, .ref (ad 492)), (4, .ref (ad 493)), (5, .ref (ad 494)), (6, .ref (ad 495)), (7, .ref (ad 496)), (8, .int x8), (9, .int y9), (10, .ref (ad q10)), (11, .int x11), (12, .int x12), (13, .int x13), (14, .int y14), (15, .int x15)] []) : VJ p l e rmL_isSo s m args below meth c (MQ below (QZi D N0 ad0 (cellL cI cL cS aC len0) out.1 out.2 s.heap.size) args s 1 4 (AF N0 ad0 s.heap.size)) 20 D cI cL cS aC N0 ad0 N ad len cells slots w 330 [(0, .ref (ad 472)), (1, .ref (ad 490)), (2, .ref (ad 491)), (3, .ref (ad 492)), (4, .ref (ad 493)), (5, .ref (ad 494)), (6, .ref (ad 495)), (7, .ref (ad 496)), (8, .int x8), (10, .ref (ad q10)), (11, .int x11), (12, .int x12), (13, .int x13), (14, .int x14), (15, .int x15), (16, .int x16)] [] := by
  unfold m_L_isSo_j330 at hf
  have hN := hL.1
  refine v_iconst X (v := (nI 1)) (by decide) dL_isSo_330 ?_
  refine v_goto (tgt := 335) X dL_isSo_331 (by decide) ?_
  exact t_L_isSo_j335 (rk1 := rk1) (rk2 := rk2) (rp1 := rp1) (rp2 := rp2) X Y hL hq10 (by omega) (by omega) (by omega) (by omega) hf hk_kc hk_kx343
set_option maxRecDepth 100000 in
set_option maxHeartbeats 4000000 in
theorem t_L_isSo_j261 {rk1 rk2 rp1 rp2 : Nat} (X : VX p s m args c cL_isSo 20 RL wsL_isSo D cI cL cS aC N0 ad0 len0 N ad len) (Y : RX meth (some .boolean)) (hL : LK N len) {q10 : Nat} {x8 : Int32} {x11 : Int32} {x12 : Int32} {x13 : Int32} {x15 : Int32} {x16 : Int32} {x17 : Int32} {s0 : Int32} {s1 : Int32} {w : Wd} {kc : Int32 → Int32 → Int32 → Wd → Option (Int32 × Wd)} {kx343 : Int32 → Int32 → Wd → Option (Int32 × Wd)} {out : Int32 × Wd} (hq10 : RW N len q10 4) (hB1 : cells + (0 + rk1) ≤ 1) (hB2 : slots + (0 + rk2) ≤ 4) (hX1 : 0 + rp1 ≤ rk1) (hX2 : 0 + rp2 ≤ rk2) (hf : m_L_isSo_j261 N q10 x8 x11 x12 x13 x15 x16 x17 s0 s1 w kc kx343 = some out) (hk_kc : ∀ (cells slots : Nat) (y9 : Int32) (y14 : Int32) (y16 : Int32) (v : Wd), cells + rk1 ≤ 1 → slots + rk2 ≤ 4 → kc y9 y14 y16 v = some out → VJ p l e rmL_isSo s m args below meth c (MQ below (QZi D N0 ad0 (cellL cI cL cS aC len0) out.1 out.2 s.heap.size) args s 1 4 (AF N0 ad0 s.heap.size)) 20 D cI cL cS aC N0 ad0 N ad len cells slots v 207 [(0, .ref (ad 472)), (1, .ref (ad 490)), (2, .ref (ad 491)), (3, .ref (ad 492)), (4, .ref (ad 493)), (5, .ref (ad 494)), (6, .ref (ad 495)), (7, .ref (ad 496)), (8, .int x8), (9, .int y9), (10, .ref (ad q10)), (11, .int x11), (12, .int x12), (13, .int x13), (14, .int y14), (15, .int x15), (16, .int y16)] []) (hk_kx343 : ∀ (cells slots : Nat) (y9 : Int32) (y14 : Int32) (v : Wd), cells + (0 + rp1) ≤ 1 → slots + (0 + rp2) ≤ 4 → kx343 y9 y14 v = some out → VJ p l e rmL_isSo s m args below meth c (MQ below (QZi D N0 ad0 (cellL cI cL cS aC len0) out.1 out.2 s.heap.size) args s 1 4 (AF N0 ad0 s.heap.size)) 20 D cI cL cS aC N0 ad0 N ad len cells slots v 343 [(0, .ref (ad 472)), (1, .ref (ad 490)), (2, .ref (ad 491)), (3, .ref (ad 492)), (4, .ref (ad 493)), (5, .ref (ad 494)), (6, .ref (ad 495)), (7, .ref (ad 496)), (8, .int x8), (9, .int y9), (10, .ref (ad q10)), (11, .int x11), (12, .int x12), (13, .int x13), (14, .int y14), (15, .int x15)] []) : VJ p l e rmL_isSo s m args below meth c (MQ below (QZi D N0 ad0 (cellL cI cL cS aC len0) out.1 out.2 s.heap.size) args s 1 4 (AF N0 ad0 s.heap.size)) 20 D cI cL cS aC N0 ad0 N ad len cells slots w 261 [(0, .ref (ad 472)), (1, .ref (ad 490)), (2, .ref (ad 491)), (3, .ref (ad 492)), (4, .ref (ad 493)), (5, .ref (ad 494)), (6, .ref (ad 495)), (7, .ref (ad 496)), (8, .int x8), (10, .ref (ad q10)), (11, .int x11), (12, .int x12), (13, .int x13), (15, .int x15), (16, .int x16), (17, .int x17)] [.int s1, .int s0] := by
  unfold m_L_isSo_j261 at hf
  have hN := hL.1
  refine v_iadd X dL_isSo_261 ?_
  obtain ⟨x14_1, ex14_1, hf⟩ := f_lt hf
  refine v_top ex14_1 ?_
  refine v_istore (lv' := [(0, .ref (ad 472)), (1, .ref (ad 490)), (2, .ref (ad 491)), (3, .ref (ad 492)), (4, .ref (ad 493)), (5, .ref (ad 494)), (6, .ref (ad 495)), (7, .ref (ad 496)), (8, .int x8), (10, .ref (ad q10)), (11, .int x11), (12, .int x12), (13, .int x13), (14, .int x14_1), (15, .int x15), (16, .int x16), (17, .int x17)]) X dL_isSo_262 (by decide) rfl ?_
  refine v_aload_n X 0 dL_isSo_264 rfl rfl ?_
  refine v_iload X 11 dL_isSo_265 rfl ?_
  refine v_iload X 14 dL_isSo_267 rfl ?_
  refine v_iload X 15 dL_isSo_269 rfl ?_
  obtain ⟨o2, ho2, hf⟩ := f_bd hf
  obtain ⟨w3, ew3, hf⟩ := f_lt hf
  refine v_callCi X hL.n490 [.int x12, .int x15, .int x16] (c_X7_status X.inC ho2) (cwV 3 X.2.2.2.2.1 gL_isSo_X7_status rfl rfl rfl (by decide +kernel) ⟨Nat.le_of_ble_eq_true rfl, Nat.le_of_ble_eq_true rfl⟩) rfl rfl (Nat.le_of_ble_eq_true rfl) ⟨by show _ ≤ 1; omega, by show _ ≤ 4; omega⟩ dL_isSo_271 ew3 ?_
  refine v_istore (lv' := [(0, .ref (ad 472)), (1, .ref (ad 490)), (2, .ref (ad 491)), (3, .ref (ad 492)), (4, .ref (ad 493)), (5, .ref (ad 494)), (6, .ref (ad 495)), (7, .ref (ad 496)), (8, .int x8), (10, .ref (ad q10)), (11, .int x11), (12, .int x12), (13, .int x13), (14, .int x14_1), (15, .int x15), (16, .int x16), (17, .int x17), (18, .int o2.1)]) X dL_isSo_274 (by decide) rfl ?_
  refine v_iload X 16 dL_isSo_276 rfl ?_
  refine v_if_ne (tgt := 294) X dL_isSo_278 (by decide) (fun c => ?_) (fun c => ?_)
  · replace hf := f_t c hf
    refine v_iload X 15 dL_isSo_294 rfl ?_
    refine v_aload X 9 dL_isSo_296 rfl ?_
    refine v_iload X 14 dL_isSo_298 rfl ?_
    obtain ⟨hi4, hf⟩ := f_c hf
    refine v_iald X hq10 hi4 dL_isSo_300 ?_
    refine v_icmp_le (tgt := 318) X dL_isSo_301 (by decide) (fun c => ?_) (fun c => ?_)
    · replace hf := f_t c hf
      refine v_iload X 17 dL_isSo_318 rfl ?_
      refine v_iconst X (v := (nI 2)) (by decide) dL_isSo_320 ?_
      refine v_icmp_eq (tgt := 330) X dL_isSo_321 (by decide) (fun c => ?_) (fun c => ?_)
      · replace hf := f_t c hf
        refine v_sub [0, 1, 2, 3, 4, 5, 6, 7, 8, 9, 10, 11, 12, 13, 14, 15] rfl ?_
        exact t_L_isSo_j330 (rk1 := rk1) (rk2 := rk2) (rp1 := rp1) (rp2 := rp2) X Y hL hq10 (by omega) (by omega) (by omega) (by omega) hf hk_kc hk_kx343
      replace hf := f_f c hf
      refine v_iload X 17 dL_isSo_324 rfl ?_
      refine v_iconst X (v := (nI 3)) (by decide) dL_isSo_326 ?_
      refine v_icmp_ne (tgt := 334) X dL_isSo_327 (by decide) (fun c => ?_) (fun c => ?_)
      · replace hf := f_t c hf
        refine v_iconst X (v := (nI 0)) (by decide) dL_isSo_334 ?_
        refine v_sub [0, 1, 2, 3, 4, 5, 6, 7, 8, 9, 10, 11, 12, 13, 14, 15] rfl ?_
        exact t_L_isSo_j335 (rk1 := rk1) (rk2 := rk2) (rp1 := rp1) (rp2 := rp2) X Y hL hq10 (by omega) (by omega) (by omega) (by omega) hf hk_kc hk_kx343
      replace hf := f_fn c hf
      refine v_sub [0, 1, 2, 3, 4, 5, 6, 7, 8, 9, 10, 11, 12, 13, 14, 15] rfl ?_
      exact t_L_isSo_j330 (rk1 := rk1) (rk2 := rk2) (rp1 := rp1) (rp2 := rp2) X Y hL hq10 (by omega) (by omega) (by omega) (by omega) hf hk_kc hk_kx343
    replace hf := f_f c hf
    refine v_iload X 17 dL_isSo_304 rfl ?_
    refine v_iconst X (v := (nI 1)) (by decide) dL_isSo_306 ?_
    refine v_icmp_ne (tgt := 314) X dL_isSo_307 (by decide) (fun c => ?_) (fun c => ?_)
    · replace hf := f_t c hf
      refine v_iconst X (v := (nI 0)) (by decide) dL_isSo_314 ?_
      refine v_goto (tgt := 335) X dL_isSo_315 (by decide) ?_
      refine v_sub [0, 1, 2, 3, 4, 5, 6, 7, 8, 9, 10, 11, 12, 13, 14, 15] rfl ?_
      exact t_L_isSo_j335 (rk1 := rk1) (rk2 := rk2) (rp1 := rp1) (rp2 := rp2) X Y hL hq10 (by omega) (by omega) (by omega) (by omega) hf hk_kc hk_kx343
    replace hf := f_fn c hf
    refine v_iconst X (v := (nI 1)) (by decide) dL_isSo_310 ?_
    refine v_goto (tgt := 335) X dL_isSo_311 (by decide) ?_
    refine v_sub [0, 1, 2, 3, 4, 5, 6, 7, 8, 9, 10, 11, 12, 13, 14, 15] rfl ?_
    exact t_L_isSo_j335 (rk1 := rk1) (rk2 := rk2) (rp1 := rp1) (rp2 := rp2) X Y hL hq10 (by omega) (by omega) (by omega) (by omega) hf hk_kc hk_kx343
  replace hf := f_fn c hf
  refine v_iload X 17 dL_isSo_281 rfl ?_
  refine v_if_ne (tgt := 290) X dL_isSo_283 (by decide) (fun c => ?_) (fun c => ?_)
  · replace hf := f_t c hf
    refine v_iconst X (v := (nI 0)) (by decide) dL_isSo_290 ?_
    refine v_goto (tgt := 335) X dL_isSo_291 (by decide) ?_
    refine v_sub [0, 1, 2, 3, 4, 5, 6, 7, 8, 9, 10, 11, 12, 13, 14, 15] rfl ?_
    exact t_L_isSo_j335 (rk1 := rk1) (rk2 := rk2) (rp1 := rp1) (rp2 := rp2) X Y hL hq10 (by omega) (by omega) (by omega) (by omega) hf hk_kc hk_kx343
  replace hf := f_fn c hf
  refine v_iconst X (v := (nI 1)) (by decide) dL_isSo_286 ?_
  refine v_goto (tgt := 335) X dL_isSo_287 (by decide) ?_
  refine v_sub [0, 1, 2, 3, 4, 5, 6, 7, 8, 9, 10, 11, 12, 13, 14, 15] rfl ?_
  exact t_L_isSo_j335 (rk1 := rk1) (rk2 := rk2) (rp1 := rp1) (rp2 := rp2) X Y hL hq10 (by omega) (by omega) (by omega) (by omega) hf hk_kc hk_kx343
set_option maxRecDepth 100000 in
set_option maxHeartbeats 4000000 in
theorem t_L_isSo_j247 {rk1 rk2 rp1 rp2 : Nat} (X : VX p s m args c cL_isSo 20 RL wsL_isSo D cI cL cS aC N0 ad0 len0 N ad len) (Y : RX meth (some .boolean)) (hL : LK N len) {q10 : Nat} {x8 : Int32} {x11 : Int32} {x12 : Int32} {x13 : Int32} {x14 : Int32} {x15 : Int32} {x16 : Int32} {s0 : Int32} {w : Wd} {kc : Int32 → Int32 → Int32 → Wd → Option (Int32 × Wd)} {kx343 : Int32 → Int32 → Wd → Option (Int32 × Wd)} {out : Int32 × Wd} (hq10 : RW N len q10 4) (hB1 : cells + (0 + rk1) ≤ 1) (hB2 : slots + (0 + rk2) ≤ 4) (hX1 : 0 + rp1 ≤ rk1) (hX2 : 0 + rp2 ≤ rk2) (hf : m_L_isSo_j247 N q10 x8 x11 x12 x13 x14 x15 x16 s0 w kc kx343 = some out) (hk_kc : ∀ (cells slots : Nat) (y9 : Int32) (y14 : Int32) (y16 : Int32) (v : Wd), cells + rk1 ≤ 1 → slots + rk2 ≤ 4 → kc y9 y14 y16 v = some out → VJ p l e rmL_isSo s m args below meth c (MQ below (QZi D N0 ad0 (cellL cI cL cS aC len0) out.1 out.2 s.heap.size) args s 1 4 (AF N0 ad0 s.heap.size)) 20 D cI cL cS aC N0 ad0 N ad len cells slots v 207 [(0, .ref (ad 472)), (1, .ref (ad 490)), (2, .ref (ad 491)), (3, .ref (ad 492)), (4, .ref (ad 493)), (5, .ref (ad 494)), (6, .ref (ad 495)), (7, .ref (ad 496)), (8, .int x8), (9, .int y9), (10, .ref (ad q10)), (11, .int x11), (12, .int x12), (13, .int x13), (14, .int y14), (15, .int x15), (16, .int y16)] []) (hk_kx343 : ∀ (cells slots : Nat) (y9 : Int32) (y14 : Int32) (v : Wd), cells + (0 + rp1) ≤ 1 → slots + (0 + rp2) ≤ 4 → kx343 y9 y14 v = some out → VJ p l e rmL_isSo s m args below meth c (MQ below (QZi D N0 ad0 (cellL cI cL cS aC len0) out.1 out.2 s.heap.size) args s 1 4 (AF N0 ad0 s.heap.size)) 20 D cI cL cS aC N0 ad0 N ad len cells slots v 343 [(0, .ref (ad 472)), (1, .ref (ad 490)), (2, .ref (ad 491)), (3, .ref (ad 492)), (4, .ref (ad 493)), (5, .ref (ad 494)), (6, .ref (ad 495)), (7, .ref (ad 496)), (8, .int x8), (9, .int y9), (10, .ref (ad q10)), (11, .int x11), (12, .int x12), (13, .int x13), (14, .int y14), (15, .int x15)] []) : VJ p l e rmL_isSo s m args below meth c (MQ below (QZi D N0 ad0 (cellL cI cL cS aC len0) out.1 out.2 s.heap.size) args s 1 4 (AF N0 ad0 s.heap.size)) 20 D cI cL cS aC N0 ad0 N ad len cells slots w 247 [(0, .ref (ad 472)), (1, .ref (ad 490)), (2, .ref (ad 491)), (3, .ref (ad 492)), (4, .ref (ad 493)), (5, .ref (ad 494)), (6, .ref (ad 495)), (7, .ref (ad 496)), (8, .int x8), (10, .ref (ad q10)), (11, .int x11), (12, .int x12), (13, .int x13), (14, .int x14), (15, .int x15), (16, .int x16)] [.int s0] := by
  unfold m_L_isSo_j247 at hf
  have hN := hL.1
  refine v_istore (lv' := [(0, .ref (ad 472)), (1, .ref (ad 490)), (2, .ref (ad 491)), (3, .ref (ad 492)), (4, .ref (ad 493)), (5, .ref (ad 494)), (6, .ref (ad 495)), (7, .ref (ad 496)), (8, .int x8), (10, .ref (ad q10)), (11, .int x11), (12, .int x12), (13, .int x13), (14, .int x14), (15, .int x15), (16, .int x16), (17, .int s0)]) X dL_isSo_247 (by decide) rfl ?_
  refine v_iload X 13 dL_isSo_249 rfl ?_
  refine v_iload X 16 dL_isSo_251 rfl ?_
  refine v_if_eq (tgt := 260) X dL_isSo_253 (by decide) (fun c => ?_) (fun c => ?_)
  · replace hf := f_t c hf
    refine v_iconst X (v := (nI 0)) (by decide) dL_isSo_260 ?_
    refine v_sub [0, 1, 2, 3, 4, 5, 6, 7, 8, 9, 10, 11, 12, 14, 15, 16] rfl ?_
    exact t_L_isSo_j261 (rk1 := rk1) (rk2 := rk2) (rp1 := rp1) (rp2 := rp2) X Y hL hq10 (by omega) (by omega) (by omega) (by omega) hf hk_kc hk_kx343
  replace hf := f_f c hf
  refine v_iconst X (v := (nI 1)) (by decide) dL_isSo_256 ?_
  refine v_goto (tgt := 261) X dL_isSo_257 (by decide) ?_
  refine v_sub [0, 1, 2, 3, 4, 5, 6, 7, 8, 9, 10, 11, 12, 14, 15, 16] rfl ?_
  exact t_L_isSo_j261 (rk1 := rk1) (rk2 := rk2) (rp1 := rp1) (rp2 := rp2) X Y hL hq10 (by omega) (by omega) (by omega) (by omega) hf hk_kc hk_kx343
set_option maxRecDepth 100000 in
set_option maxHeartbeats 4000000 in
theorem t_L_isSo_L207 {rp1 rp2 : Nat} (X : VX p s m args c cL_isSo 20 RL wsL_isSo D cI cL cS aC N0 ad0 len0 N ad len) (Y : RX meth (some .boolean)) (hL : LK N len) {q10 : Nat} {x8 : Int32} {x11 : Int32} {x12 : Int32} {x13 : Int32} {x15 : Int32} {kx343 : Int32 → Int32 → Wd → Option (Int32 × Wd)} {out : Int32 × Wd} (hq10 : RW N len q10 4) (hk_kx343 : ∀ (cells slots : Nat) (y9 : Int32) (y14 : Int32) (v : Wd), cells + (0 + rp1) ≤ 1 → slots + (0 + rp2) ≤ 4 → kx343 y9 y14 v = some out → VJ p l e rmL_isSo s m args below meth c (MQ below (QZi D N0 ad0 (cellL cI cL cS aC len0) out.1 out.2 s.heap.size) args s 1 4 (AF N0 ad0 s.heap.size)) 20 D cI cL cS aC N0 ad0 N ad len cells slots v 343 [(0, .ref (ad 472)), (1, .ref (ad 490)), (2, .ref (ad 491)), (3, .ref (ad 492)), (4, .ref (ad 493)), (5, .ref (ad 494)), (6, .ref (ad 495)), (7, .ref (ad 496)), (8, .int x8), (9, .int y9), (10, .ref (ad q10)), (11, .int x11), (12, .int x12), (13, .int x13), (14, .int y14), (15, .int x15)] []) : ∀ (n : Nat) (cells slots : Nat) (x9 : Int32) (x14 : Int32) (x16 : Int32) (w : Wd), cells + (n * 0 + (0 + rp1)) ≤ 1 → slots + (n * 0 + (0 + rp2)) ≤ 4 → m_L_isSo_L207 N q10 x8 x11 x12 x13 x15 kx343 n x9 x14 x16 w = some out → VJ p l e rmL_isSo s m args below meth c (MQ below (QZi D N0 ad0 (cellL cI cL cS aC len0) out.1 out.2 s.heap.size) args s 1 4 (AF N0 ad0 s.heap.size)) 20 D cI cL cS aC N0 ad0 N ad len cells slots w 207 [(0, .ref (ad 472)), (1, .ref (ad 490)), (2, .ref (ad 491)), (3, .ref (ad 492)), (4, .ref (ad 493)), (5, .ref (ad 494)), (6, .ref (ad 495)), (7, .ref (ad 496)), (8, .int x8), (9, .int x9), (10, .ref (ad q10)), (11, .int x11), (12, .int x12), (13, .int x13), (14, .int x14), (15, .int x15), (16, .int x16)] [] := by
  intro n
  induction n with
  | zero => intro cells slots x9 x14 x16 w hB1 hB2 hf; exact f_n hf
  | succ n ih =>
    intro cells slots x9 x14 x16 w hB1 hB2 hf
    rw [m_L_isSo_L207] at hf
    have hN := hL.1
    refine v_iload X 16 dL_isSo_207 rfl ?_
    refine v_aload_n X 1 dL_isSo_209 rfl rfl ?_
    refine v_bipush X (v := (nI 20)) (by decide) dL_isSo_210 ?_
    refine v_iload X 15 dL_isSo_212 rfl ?_
    refine v_iadd X dL_isSo_214 ?_
    obtain ⟨hi1, hf⟩ := f_c hf
    refine v_iald X (lk0 hL) hi1 dL_isSo_215 ?_
    refine v_icmp_gt (tgt := 343) X dL_isSo_216 (by decide) (fun c => ?_) (fun c => ?_)
    · replace hf := f_t c hf
      refine v_sub [0, 1, 2, 3, 4, 5, 6, 7, 8, 9, 10, 11, 12, 13, 14, 15] rfl ?_
      exact hk_kx343 _ _ _ _ _ (by omega) (by omega) hf
    replace hf := f_f c hf
    refine v_iload X 9 dL_isSo_219 rfl ?_
    refine v_if_eq (tgt := 343) X dL_isSo_221 (by decide) (fun c => ?_) (fun c => ?_)
    · replace hf := f_t c hf
      refine v_sub [0, 1, 2, 3, 4, 5, 6, 7, 8, 9, 10, 11, 12, 13, 14, 15] rfl ?_
      exact hk_kx343 _ _ _ _ _ (by omega) (by omega) hf
    replace hf := f_f c hf
    refine v_aload_n X 2 dL_isSo_224 rfl rfl ?_
    refine v_iconst X (v := (nI 4)) (by decide) dL_isSo_225 ?_
    refine v_iload X 12 dL_isSo_226 rfl ?_
    refine v_imul X dL_isSo_228 ?_
    refine v_iload X 15 dL_isSo_229 rfl ?_
    refine v_iadd X dL_isSo_231 ?_
    obtain ⟨hi2, hf⟩ := f_c hf
    refine v_iald X (lk1 hL) hi2 dL_isSo_232 ?_
    refine v_iload X 16 dL_isSo_233 rfl ?_
    refine v_ishr X dL_isSo_235 ?_
    refine v_iconst X (v := (nI 1)) (by decide) dL_isSo_236 ?_
    refine v_iand X dL_isSo_237 ?_
    refine v_iconst X (v := (nI 1)) (by decide) dL_isSo_238 ?_
    refine v_icmp_ne (tgt := 246) X dL_isSo_239 (by decide) (fun c => ?_) (fun c => ?_)
    · replace hf := f_t c hf
      refine v_iconst X (v := (nI 0)) (by decide) dL_isSo_246 ?_
      refine v_sub [0, 1, 2, 3, 4, 5, 6, 7, 8, 10, 11, 12, 13, 14, 15, 16] rfl ?_
      exact t_L_isSo_j247 (rk1 := (n * 0 + (0 + rp1))) (rk2 := (n * 0 + (0 + rp2))) (rp1 := rp1) (rp2 := rp2) X Y hL hq10 (by omega) (by omega) (by omega) (by omega) hf ih hk_kx343
    replace hf := f_fn c hf
    refine v_iconst X (v := (nI 1)) (by decide) dL_isSo_242 ?_
    refine v_goto (tgt := 247) X dL_isSo_243 (by decide) ?_
    refine v_sub [0, 1, 2, 3, 4, 5, 6, 7, 8, 10, 11, 12, 13, 14, 15, 16] rfl ?_
    exact t_L_isSo_j247 (rk1 := (n * 0 + (0 + rp1))) (rk2 := (n * 0 + (0 + rp2))) (rp1 := rp1) (rp2 := rp2) X Y hL hq10 (by omega) (by omega) (by omega) (by omega) hf ih hk_kx343
set_option maxRecDepth 100000 in
set_option maxHeartbeats 4000000 in
theorem t_L_isSo_j343 {rk1 rk2 rp1 rp2 : Nat} (X : VX p s m args c cL_isSo 20 RL wsL_isSo D cI cL cS aC N0 ad0 len0 N ad len) (Y : RX meth (some .boolean)) (hL : LK N len) {q10 : Nat} {x8 : Int32} {x9 : Int32} {x11 : Int32} {x12 : Int32} {x13 : Int32} {x14 : Int32} {x15 : Int32} {w : Wd} {kc : Int32 → Int32 → Int32 → Int32 → Wd → Option (Int32 × Wd)} {kx349 : Int32 → Int32 → Int32 → Wd → Option (Int32 × Wd)} {out : Int32 × Wd} (hq10 : RW N len q10 4) (hB1 : cells + (0 + rk1) ≤ 1) (hB2 : slots + (0 + rk2) ≤ 4) (hX1 : 0 + rp1 ≤ rk1) (hX2 : 0 + rp2 ≤ rk2) (hf : m_L_isSo_j343 N q10 x8 x9 x11 x12 x13 x14 x15 w kc kx349 = some out) (hk_kc : ∀ (cells slots : Nat) (y9 : Int32) (y13 : Int32) (y14 : Int32) (y15 : Int32) (v : Wd), cells + rk1 ≤ 1 → slots + rk2 ≤ 4 → kc y9 y13 y14 y15 v = some out → VJ p l e rmL_isSo s m args below meth c (MQ below (QZi D N0 ad0 (cellL cI cL cS aC len0) out.1 out.2 s.heap.size) args s 1 4 (AF N0 ad0 s.heap.size)) 20 D cI cL cS aC N0 ad0 N ad len cells slots v 160 [(0, .ref (ad 472)), (1, .ref (ad 490)), (2, .ref (ad 491)), (3, .ref (ad 492)), (4, .ref (ad 493)), (5, .ref (ad 494)), (6, .ref (ad 495)), (7, .ref (ad 496)), (8, .int x8), (9, .int y9), (10, .ref (ad q10)), (11, .int x11), (12, .int x12), (13, .int y13), (14, .int y14), (15, .int y15)] []) (hk_kx349 : ∀ (cells slots : Nat) (y9 : Int32) (y13 : Int32) (y14 : Int32) (v : Wd), cells + (0 + rp1) ≤ 1 → slots + (0 + rp2) ≤ 4 → kx349 y9 y13 y14 v = some out → VJ p l e rmL_isSo s m args below meth c (MQ below (QZi D N0 ad0 (cellL cI cL cS aC len0) out.1 out.2 s.heap.size) args s 1 4 (AF N0 ad0 s.heap.size)) 20 D cI cL cS aC N0 ad0 N ad len cells slots v 349 [(0, .ref (ad 472)), (1, .ref (ad 490)), (2, .ref (ad 491)), (3, .ref (ad 492)), (4, .ref (ad 493)), (5, .ref (ad 494)), (6, .ref (ad 495)), (7, .ref (ad 496)), (8, .int x8), (9, .int y9), (10, .ref (ad q10)), (11, .int x11), (12, .int x12), (13, .int y13), (14, .int y14)] []) : VJ p l e rmL_isSo s m args below meth c (MQ below (QZi D N0 ad0 (cellL cI cL cS aC len0) out.1 out.2 s.heap.size) args s 1 4 (AF N0 ad0 s.heap.size)) 20 D cI cL cS aC N0 ad0 N ad len cells slots w 343 [(0, .ref (ad 472)), (1, .ref (ad 490)), (2, .ref (ad 491)), (3, .ref (ad 492)), (4, .ref (ad 493)), (5, .ref (ad 494)), (6, .ref (ad 495)), (7, .ref (ad 496)), (8, .int x8), (9, .int x9), (10, .ref (ad q10)), (11, .int x11), (12, .int x12), (13, .int x13), (14, .int x14), (15, .int x15)] [] := by
  unfold m_L_isSo_j343 at hf
  have hN := hL.1
  refine v_iinc (v := (x15 + (nI 1))) (lv' := [(0, .ref (ad 472)), (1, .ref (ad 490)), (2, .ref (ad 491)), (3, .ref (ad 492)), (4, .ref (ad 493)), (5, .ref (ad 494)), (6, .ref (ad 495)), (7, .ref (ad 496)), (8, .int x8), (9, .int x9), (10, .ref (ad q10)), (11, .int x11), (12, .int x12), (13, .int x13), (14, .int x14), (15, .int (x15 + (nI 1)))]) X 15 dL_isSo_343 rfl rfl (by decide) rfl ?_
  refine v_goto (tgt := 160) X dL_isSo_346 (by decide) ?_
  exact hk_kc _ _ _ _ _ _ _ (by omega) (by omega) hf
set_option maxRecDepth 100000 in
set_option maxHeartbeats 4000000 in
theorem t_L_isSo_j192 {rk1 rk2 rp1 rp2 : Nat} (X : VX p s m args c cL_isSo 20 RL wsL_isSo D cI cL cS aC N0 ad0 len0 N ad len) (Y : RX meth (some .boolean)) (hL : LK N len) {q10 : Nat} {x8 : Int32} {x11 : Int32} {x12 : Int32} {x13 : Int32} {x14 : Int32} {x15 : Int32} {s0 : Int32} {w : Wd} {kc : Int32 → Int32 → Int32 → Int32 → Wd → Option (Int32 × Wd)} {kx349 : Int32 → Int32 → Int32 → Wd → Option (Int32 × Wd)} {out : Int32 × Wd} (hq10 : RW N len q10 4) (hB1 : cells + (0 + rk1) ≤ 1) (hB2 : slots + (0 + rk2) ≤ 4) (hX1 : 0 + rp1 ≤ rk1) (hX2 : 0 + rp2 ≤ rk2) (hf : m_L_isSo_j192 N q10 x8 x11 x12 x13 x14 x15 s0 w kc kx349 = some out) (hk_kc : ∀ (cells slots : Nat) (y9 : Int32) (y13 : Int32) (y14 : Int32) (y15 : Int32) (v : Wd), cells + rk1 ≤ 1 → slots + rk2 ≤ 4 → kc y9 y13 y14 y15 v = some out → VJ p l e rmL_isSo s m args below meth c (MQ below (QZi D N0 ad0 (cellL cI cL cS aC len0) out.1 out.2 s.heap.size) args s 1 4 (AF N0 ad0 s.heap.size)) 20 D cI cL cS aC N0 ad0 N ad len cells slots v 160 [(0, .ref (ad 472)), (1, .ref (ad 490)), (2, .ref (ad 491)), (3, .ref (ad 492)), (4, .ref (ad 493)), (5, .ref (ad 494)), (6, .ref (ad 495)), (7, .ref (ad 496)), (8, .int x8), (9, .int y9), (10, .ref (ad q10)), (11, .int x11), (12, .int x12), (13, .int y13), (14, .int y14), (15, .int y15)] []) (hk_kx349 : ∀ (cells slots : Nat) (y9 : Int32) (y13 : Int32) (y14 : Int32) (v : Wd), cells + (0 + rp1) ≤ 1 → slots + (0 + rp2) ≤ 4 → kx349 y9 y13 y14 v = some out → VJ p l e rmL_isSo s m args below meth c (MQ below (QZi D N0 ad0 (cellL cI cL cS aC len0) out.1 out.2 s.heap.size) args s 1 4 (AF N0 ad0 s.heap.size)) 20 D cI cL cS aC N0 ad0 N ad len cells slots v 349 [(0, .ref (ad 472)), (1, .ref (ad 490)), (2, .ref (ad 491)), (3, .ref (ad 492)), (4, .ref (ad 493)), (5, .ref (ad 494)), (6, .ref (ad 495)), (7, .ref (ad 496)), (8, .int x8), (9, .int y9), (10, .ref (ad q10)), (11, .int x11), (12, .int x12), (13, .int y13), (14, .int y14)] []) : VJ p l e rmL_isSo s m args below meth c (MQ below (QZi D N0 ad0 (cellL cI cL cS aC len0) out.1 out.2 s.heap.size) args s 1 4 (AF N0 ad0 s.heap.size)) 20 D cI cL cS aC N0 ad0 N ad len cells slots w 192 [(0, .ref (ad 472)), (1, .ref (ad 490)), (2, .ref (ad 491)), (3, .ref (ad 492)), (4, .ref (ad 493)), (5, .ref (ad 494)), (6, .ref (ad 495)), (7, .ref (ad 496)), (8, .int x8), (10, .ref (ad q10)), (11, .int x11), (12, .int x12), (13, .int x13), (14, .int x14), (15, .int x15)] [.int s0] := by
  unfold m_L_isSo_j192 at hf
  have hN := hL.1
  refine v_istore (lv' := [(0, .ref (ad 472)), (1, .ref (ad 490)), (2, .ref (ad 491)), (3, .ref (ad 492)), (4, .ref (ad 493)), (5, .ref (ad 494)), (6, .ref (ad 495)), (7, .ref (ad 496)), (8, .int x8), (9, .int s0), (10, .ref (ad q10)), (11, .int x11), (12, .int x12), (13, .int x13), (14, .int x14), (15, .int x15)]) X dL_isSo_192 (by decide) rfl ?_
  refine v_iload X 13 dL_isSo_194 rfl ?_
  refine v_aload X 10 dL_isSo_196 rfl ?_
  refine v_iload X 15 dL_isSo_198 rfl ?_
  obtain ⟨hi1, hf⟩ := f_c hf
  refine v_iald X hq10 hi1 dL_isSo_200 ?_
  refine v_iadd X dL_isSo_201 ?_
  obtain ⟨x13_2, ex13_2, hf⟩ := f_lt hf
  refine v_top ex13_2 ?_
  refine v_istore (lv' := [(0, .ref (ad 472)), (1, .ref (ad 490)), (2, .ref (ad 491)), (3, .ref (ad 492)), (4, .ref (ad 493)), (5, .ref (ad 494)), (6, .ref (ad 495)), (7, .ref (ad 496)), (8, .int x8), (9, .int s0), (10, .ref (ad q10)), (11, .int x11), (12, .int x12), (13, .int x13_2), (14, .int x14), (15, .int x15)]) X dL_isSo_202 (by decide) rfl ?_
  refine v_iconst X (v := (nI 1)) (by decide) dL_isSo_204 ?_
  refine v_istore (lv' := [(0, .ref (ad 472)), (1, .ref (ad 490)), (2, .ref (ad 491)), (3, .ref (ad 492)), (4, .ref (ad 493)), (5, .ref (ad 494)), (6, .ref (ad 495)), (7, .ref (ad 496)), (8, .int x8), (9, .int s0), (10, .ref (ad q10)), (11, .int x11), (12, .int x12), (13, .int x13_2), (14, .int x14), (15, .int x15), (16, .int (nI 1))]) X dL_isSo_205 (by decide) rfl ?_
  refine t_L_isSo_L207 (rp1 := rk1) (rp2 := rk2) X Y hL hq10 ?_ _ _ _ _ _ _ _ ?_ ?_ hf
  · intro cells slots x9_3 x14_4 w5 hB1 hB2 hf
    exact t_L_isSo_j343 (rk1 := rk1) (rk2 := rk2) (rp1 := rp1) (rp2 := rp2) X Y hL hq10 (by omega) (by omega) (by omega) (by omega) hf hk_kc hk_kx349
  · have hFU : FU * 0 = 0 := rfl; omega
  · have hFU : FU * 0 = 0 := rfl; omega
set_option maxRecDepth 100000 in
set_option maxHeartbeats 4000000 in
theorem t_L_isSo_L160 {rp1 rp2 : Nat} (X : VX p s m args c cL_isSo 20 RL wsL_isSo D cI cL cS aC N0 ad0 len0 N ad len) (Y : RX meth (some .boolean)) (hL : LK N len) {q10 : Nat} {x8 : Int32} {x11 : Int32} {x12 : Int32} {kx349 : Int32 → Int32 → Int32 → Wd → Option (Int32 × Wd)} {out : Int32 × Wd} (hq10 : RW N len q10 4) (hk_kx349 : ∀ (cells slots : Nat) (y9 : Int32) (y13 : Int32) (y14 : Int32) (v : Wd), cells + (0 + rp1) ≤ 1 → slots + (0 + rp2) ≤ 4 → kx349 y9 y13 y14 v = some out → VJ p l e rmL_isSo s m args below meth c (MQ below (QZi D N0 ad0 (cellL cI cL cS aC len0) out.1 out.2 s.heap.size) args s 1 4 (AF N0 ad0 s.heap.size)) 20 D cI cL cS aC N0 ad0 N ad len cells slots v 349 [(0, .ref (ad 472)), (1, .ref (ad 490)), (2, .ref (ad 491)), (3, .ref (ad 492)), (4, .ref (ad 493)), (5, .ref (ad 494)), (6, .ref (ad 495)), (7, .ref (ad 496)), (8, .int x8), (9, .int y9), (10, .ref (ad q10)), (11, .int x11), (12, .int x12), (13, .int y13), (14, .int y14)] []) : ∀ (n : Nat) (cells slots : Nat) (x9 : Int32) (x13 : Int32) (x14 : Int32) (x15 : Int32) (w : Wd), cells + (n * 0 + (0 + rp1)) ≤ 1 → slots + (n * 0 + (0 + rp2)) ≤ 4 → m_L_isSo_L160 N q10 x8 x11 x12 kx349 n x9 x13 x14 x15 w = some out → VJ p l e rmL_isSo s m args below meth c (MQ below (QZi D N0 ad0 (cellL cI cL cS aC len0) out.1 out.2 s.heap.size) args s 1 4 (AF N0 ad0 s.heap.size)) 20 D cI cL cS aC N0 ad0 N ad len cells slots w 160 [(0, .ref (ad 472)), (1, .ref (ad 490)), (2, .ref (ad 491)), (3, .ref (ad 492)), (4, .ref (ad 493)), (5, .ref (ad 494)), (6, .ref (ad 495)), (7, .ref (ad 496)), (8, .int x8), (9, .int x9), (10, .ref (ad q10)), (11, .int x11), (12, .int x12), (13, .int x13), (14, .int x14), (15, .int x15)] [] := by
  intro n
  induction n with
  | zero => intro cells slots x9 x13 x14 x15 w hB1 hB2 hf; exact f_n hf
  | succ n ih =>
    intro cells slots x9 x13 x14 x15 w hB1 hB2 hf
    rw [m_L_isSo_L160] at hf
    have hN := hL.1
    refine v_iload X 15 dL_isSo_160 rfl ?_
    refine v_iconst X (v := (nI 4)) (by decide) dL_isSo_162 ?_
    refine v_icmp_ge (tgt := 349) X dL_isSo_163 (by decide) (fun c => ?_) (fun c => ?_)
    · replace hf := f_t c hf
      refine v_sub [0, 1, 2, 3, 4, 5, 6, 7, 8, 9, 10, 11, 12, 13, 14] rfl ?_
      exact hk_kx349 _ _ _ _ _ _ (by omega) (by omega) hf
    replace hf := f_f c hf
    refine v_iload X 9 dL_isSo_166 rfl ?_
    refine v_if_eq (tgt := 349) X dL_isSo_168 (by decide) (fun c => ?_) (fun c => ?_)
    · replace hf := f_t c hf
      refine v_sub [0, 1, 2, 3, 4, 5, 6, 7, 8, 9, 10, 11, 12, 13, 14] rfl ?_
      exact hk_kx349 _ _ _ _ _ _ (by omega) (by omega) hf
    replace hf := f_f c hf
    refine v_aload_n X 0 dL_isSo_171 rfl rfl ?_
    refine v_iload X 12 dL_isSo_172 rfl ?_
    refine v_iload X 15 dL_isSo_174 rfl ?_
    obtain ⟨o1, ho1, hf⟩ := f_bd hf
    obtain ⟨w2, ew2, hf⟩ := f_lt hf
    refine v_callCi X hL.n490 [.int x12, .int x15] (c_X7_served X.inC ho1) (cwV 2 X.2.2.2.2.1 gL_isSo_X7_served rfl rfl rfl (by decide +kernel) ⟨Nat.le_of_ble_eq_true rfl, Nat.le_of_ble_eq_true rfl⟩) rfl rfl (Nat.le_of_ble_eq_true rfl) ⟨by show _ ≤ 1; omega, by show _ ≤ 4; omega⟩ dL_isSo_176 ew2 ?_
    refine v_aload X 10 dL_isSo_179 rfl ?_
    refine v_iload X 15 dL_isSo_181 rfl ?_
    obtain ⟨hi3, hf⟩ := f_c hf
    refine v_iald X hq10 hi3 dL_isSo_183 ?_
    refine v_icmp_ne (tgt := 191) X dL_isSo_184 (by decide) (fun c => ?_) (fun c => ?_)
    · replace hf := f_t c hf
      refine v_iconst X (v := (nI 0)) (by decide) dL_isSo_191 ?_
      refine v_sub [0, 1, 2, 3, 4, 5, 6, 7, 8, 10, 11, 12, 13, 14, 15] rfl ?_
      exact t_L_isSo_j192 (rk1 := (n * 0 + (0 + rp1))) (rk2 := (n * 0 + (0 + rp2))) (rp1 := rp1) (rp2 := rp2) X Y hL hq10 (by omega) (by omega) (by omega) (by omega) hf ih hk_kx349
    replace hf := f_fn c hf
    refine v_iconst X (v := (nI 1)) (by decide) dL_isSo_187 ?_
    refine v_goto (tgt := 192) X dL_isSo_188 (by decide) ?_
    refine v_sub [0, 1, 2, 3, 4, 5, 6, 7, 8, 10, 11, 12, 13, 14, 15] rfl ?_
    exact t_L_isSo_j192 (rk1 := (n * 0 + (0 + rp1))) (rk2 := (n * 0 + (0 + rp2))) (rp1 := rp1) (rp2 := rp2) X Y hL hq10 (by omega) (by omega) (by omega) (by omega) hf ih hk_kx349
set_option maxRecDepth 100000 in
set_option maxHeartbeats 4000000 in
theorem t_L_isSo_j555 {rk1 rk2 rp1 rp2 : Nat} (X : VX p s m args c cL_isSo 20 RL wsL_isSo D cI cL cS aC N0 ad0 len0 N ad len) (Y : RX meth (some .boolean)) (hL : LK N len) {q10 : Nat} {x8 : Int32} {x11 : Int32} {x12 : Int32} {x15 : Int32} {x16 : Int32} {s0 : Int32} {w : Wd} {kc : Int32 → Int32 → Wd → Option (Int32 × Wd)} {kx563 : Int32 → Wd → Option (Int32 × Wd)} {out : Int32 × Wd} (hq10 : RW N len q10 4) (hB1 : cells + (0 + rk1) ≤ 1) (hB2 : slots + (0 + rk2) ≤ 4) (hX1 : 0 + rp1 ≤ rk1) (hX2 : 0 + rp2 ≤ rk2) (hf : m_L_isSo_j555 N q10 x8 x11 x12 x15 x16 s0 w kc kx563 = some out) (hk_kc : ∀ (cells slots : Nat) (y9 : Int32) (y16 : Int32) (v : Wd), cells + rk1 ≤ 1 → slots + rk2 ≤ 4 → kc y9 y16 v = some out → VJ p l e rmL_isSo s m args below meth c (MQ below (QZi D N0 ad0 (cellL cI cL cS aC len0) out.1 out.2 s.heap.size) args s 1 4 (AF N0 ad0 s.heap.size)) 20 D cI cL cS aC N0 ad0 N ad len cells slots v 454 [(0, .ref (ad 472)), (1, .ref (ad 490)), (2, .ref (ad 491)), (3, .ref (ad 492)), (4, .ref (ad 493)), (5, .ref (ad 494)), (6, .ref (ad 495)), (7, .ref (ad 496)), (8, .int x8), (9, .int y9), (10, .ref (ad q10)), (11, .int x11), (12, .int x12), (15, .int x15), (16, .int y16)] []) (hk_kx563 : ∀ (cells slots : Nat) (y9 : Int32) (v : Wd), cells + (0 + rp1) ≤ 1 → slots + (0 + rp2) ≤ 4 → kx563 y9 v = some out → VJ p l e rmL_isSo s m args below meth c (MQ below (QZi D N0 ad0 (cellL cI cL cS aC len0) out.1 out.2 s.heap.size) args s 1 4 (AF N0 ad0 s.heap.size)) 20 D cI cL cS aC N0 ad0 N ad len cells slots v 563 [(0, .ref (ad 472)), (1, .ref (ad 490)), (2, .ref (ad 491)), (3, .ref (ad 492)), (4, .ref (ad 493)), (5, .ref (ad 494)), (6, .ref (ad 495)), (7, .ref (ad 496)), (8, .int x8), (9, .int y9), (10, .ref (ad q10)), (11, .int x11), (12, .int x12)] []) : VJ p l e rmL_isSo s m args below meth c (MQ below (QZi D N0 ad0 (cellL cI cL cS aC len0) out.1 out.2 s.heap.size) args s 1 4 (AF N0 ad0 s.heap.size)) 20 D cI cL cS aC N0 ad0 N ad len cells slots w 555 [(0, .ref (ad 472)), (1, .ref (ad 490)), (2, .ref (ad 491)), (3, .ref (ad 492)), (4, .ref (ad 493)), (5, .ref (ad 494)), (6, .ref (ad 495)), (7, .ref (ad 496)), (8, .int x8), (10, .ref (ad q10)), (11, .int x11), (12, .int x12), (15, .int x15), (16, .int x16)] [.int s0] := by
  unfold m_L_isSo_j555 at hf
  have hN := hL.1
  refine v_istore (lv' := [(0, .ref (ad 472)), (1, .ref (ad 490)), (2, .ref (ad 491)), (3, .ref (ad 492)), (4, .ref (ad 493)), (5, .ref (ad 494)), (6, .ref (ad 495)), (7, .ref (ad 496)), (8, .int x8), (9, .int s0), (10, .ref (ad q10)), (11, .int x11), (12, .int x12), (15, .int x15), (16, .int x16)]) X dL_isSo_555 (by decide) rfl ?_
  refine v_iinc (v := (x16 + (nI 1))) (lv' := [(0, .ref (ad 472)), (1, .ref (ad 490)), (2, .ref (ad 491)), (3, .ref (ad 492)), (4, .ref (ad 493)), (5, .ref (ad 494)), (6, .ref (ad 495)), (7, .ref (ad 496)), (8, .int x8), (9, .int s0), (10, .ref (ad q10)), (11, .int x11), (12, .int x12), (15, .int x15), (16, .int (x16 + (nI 1)))]) X 14 dL_isSo_557 rfl rfl (by decide) rfl ?_
  refine v_goto (tgt := 454) X dL_isSo_560 (by decide) ?_
  exact hk_kc _ _ _ _ _ (by omega) (by omega) hf
set_option maxRecDepth 100000 in
set_option maxHeartbeats 4000000 in
theorem t_L_isSo_j554 {rk1 rk2 rp1 rp2 : Nat} (X : VX p s m args c cL_isSo 20 RL wsL_isSo D cI cL cS aC N0 ad0 len0 N ad len) (Y : RX meth (some .boolean)) (hL : LK N len) {q10 : Nat} {x8 : Int32} {x11 : Int32} {x12 : Int32} {x15 : Int32} {x16 : Int32} {w : Wd} {kc : Int32 → Int32 → Wd → Option (Int32 × Wd)} {kx563 : Int32 → Wd → Option (Int32 × Wd)} {out : Int32 × Wd} (hq10 : RW N len q10 4) (hB1 : cells + (0 + rk1) ≤ 1) (hB2 : slots + (0 + rk2) ≤ 4) (hX1 : 0 + rp1 ≤ rk1) (hX2 : 0 + rp2 ≤ rk2) (hf : m_L_isSo_j554 N q10 x8 x11 x12 x15 x16 w kc kx563 = some out) (hk_kc : ∀ (cells slots : Nat) (y9 : Int32) (y16 : Int32) (v : Wd), cells + rk1 ≤ 1 → slots + rk2 ≤ 4 → kc y9 y16 v = some out → VJ p l e rmL_isSo s m args below meth c (MQ below (QZi D N0 ad0 (cellL cI cL cS aC len0) out.1 out.2 s.heap.size) args s 1 4 (AF N0 ad0 s.heap.size)) 20 D cI cL cS aC N0 ad0 N ad len cells slots v 454 [(0, .ref (ad 472)), (1, .ref (ad 490)), (2, .ref (ad 491)), (3, .ref (ad 492)), (4, .ref (ad 493)), (5, .ref (ad 494)), (6, .ref (ad 495)), (7, .ref (ad 496)), (8, .int x8), (9, .int y9), (10, .ref (ad q10)), (11, .int x11), (12, .int x12), (15, .int x15), (16, .int y16)] []) (hk_kx563 : ∀ (cells slots : Nat) (y9 : Int32) (v : Wd), cells + (0 + rp1) ≤ 1 → slots + (0 + rp2) ≤ 4 → kx563 y9 v = some out → VJ p l e rmL_isSo s m args below meth c (MQ below (QZi D N0 ad0 (cellL cI cL cS aC len0) out.1 out.2 s.heap.size) args s 1 4 (AF N0 ad0 s.heap.size)) 20 D cI cL cS aC N0 ad0 N ad len cells slots v 563 [(0, .ref (ad 472)), (1, .ref (ad 490)), (2, .ref (ad 491)), (3, .ref (ad 492)), (4, .ref (ad 493)), (5, .ref (ad 494)), (6, .ref (ad 495)), (7, .ref (ad 496)), (8, .int x8), (9, .int y9), (10, .ref (ad q10)), (11, .int x11), (12, .int x12)] []) : VJ p l e rmL_isSo s m args below meth c (MQ below (QZi D N0 ad0 (cellL cI cL cS aC len0) out.1 out.2 s.heap.size) args s 1 4 (AF N0 ad0 s.heap.size)) 20 D cI cL cS aC N0 ad0 N ad len cells slots w 554 [(0, .ref (ad 472)), (1, .ref (ad 490)), (2, .ref (ad 491)), (3, .ref (ad 492)), (4, .ref (ad 493)), (5, .ref (ad 494)), (6, .ref (ad 495)), (7, .ref (ad 496)), (8, .int x8), (10, .ref (ad q10)), (11, .int x11), (12, .int x12), (15, .int x15), (16, .int x16)] [] := by
  unfold m_L_isSo_j554 at hf
  have hN := hL.1
  refine v_iconst X (v := (nI 0)) (by decide) dL_isSo_554 ?_
  exact t_L_isSo_j555 (rk1 := rk1) (rk2 := rk2) (rp1 := rp1) (rp2 := rp2) X Y hL hq10 (by omega) (by omega) (by omega) (by omega) hf hk_kc hk_kx563
set_option maxRecDepth 100000 in
set_option maxHeartbeats 4000000 in
theorem t_L_isSo_j550 {rk1 rk2 rp1 rp2 : Nat} (X : VX p s m args c cL_isSo 20 RL wsL_isSo D cI cL cS aC N0 ad0 len0 N ad len) (Y : RX meth (some .boolean)) (hL : LK N len) {q10 : Nat} {x8 : Int32} {x11 : Int32} {x12 : Int32} {x15 : Int32} {x16 : Int32} {w : Wd} {kc : Int32 → Int32 → Wd → Option (Int32 × Wd)} {kx563 : Int32 → Wd → Option (Int32 × Wd)} {out : Int32 × Wd} (hq10 : RW N len q10 4) (hB1 : cells + (0 + rk1) ≤ 1) (hB2 : slots + (0 + rk2) ≤ 4) (hX1 : 0 + rp1 ≤ rk1) (hX2 : 0 + rp2 ≤ rk2) (hf : m_L_isSo_j550 N q10 x8 x11 x12 x15 x16 w kc kx563 = some out) (hk_kc : ∀ (cells slots : Nat) (y9 : Int32) (y16 : Int32) (v : Wd), cells + rk1 ≤ 1 → slots + rk2 ≤ 4 → kc y9 y16 v = some out → VJ p l e rmL_isSo s m args below meth c (MQ below (QZi D N0 ad0 (cellL cI cL cS aC len0) out.1 out.2 s.heap.size) args s 1 4 (AF N0 ad0 s.heap.size)) 20 D cI cL cS aC N0 ad0 N ad len cells slots v 454 [(0, .ref (ad 472)), (1, .ref (ad 490)), (2, .ref (ad 491)), (3, .ref (ad 492)), (4, .ref (ad 493)), (5, .ref (ad 494)), (6, .ref (ad 495)), (7, .ref (ad 496)), (8, .int x8), (9, .int y9), (10, .ref (ad q10)), (11, .int x11), (12, .int x12), (15, .int x15), (16, .int y16)] []) (hk_kx563 : ∀ (cells slots : Nat) (y9 : Int32) (v : Wd), cells + (0 + rp1) ≤ 1 → slots + (0 + rp2) ≤ 4 → kx563 y9 v = some out → VJ p l e rmL_isSo s m args below meth c (MQ below (QZi D N0 ad0 (cellL cI cL cS aC len0) out.1 out.2 s.heap.size) args s 1 4 (AF N0 ad0 s.heap.size)) 20 D cI cL cS aC N0 ad0 N ad len cells slots v 563 [(0, .ref (ad 472)), (1, .ref (ad 490)), (2, .ref (ad 491)), (3, .ref (ad 492)), (4, .ref (ad 493)), (5, .ref (ad 494)), (6, .ref (ad 495)), (7, .ref (ad 496)), (8, .int x8), (9, .int y9), (10, .ref (ad q10)), (11, .int x11), (12, .int x12)] []) : VJ p l e rmL_isSo s m args below meth c (MQ below (QZi D N0 ad0 (cellL cI cL cS aC len0) out.1 out.2 s.heap.size) args s 1 4 (AF N0 ad0 s.heap.size)) 20 D cI cL cS aC N0 ad0 N ad len cells slots w 550 [(0, .ref (ad 472)), (1, .ref (ad 490)), (2, .ref (ad 491)), (3, .ref (ad 492)), (4, .ref (ad 493)), (5, .ref (ad 494)), (6, .ref (ad 495)), (7, .ref (ad 496)), (8, .int x8), (10, .ref (ad q10)), (11, .int x11), (12, .int x12), (15, .int x15), (16, .int x16)] [] := by
  unfold m_L_isSo_j550 at hf
  have hN := hL.1
  refine v_iconst X (v := (nI 1)) (by decide) dL_isSo_550 ?_
  refine v_goto (tgt := 555) X dL_isSo_551 (by decide) ?_
  exact t_L_isSo_j555 (rk1 := rk1) (rk2 := rk2) (rp1 := rp1) (rp2 := rp2) X Y hL hq10 (by omega) (by omega) (by omega) (by omega) hf hk_kc hk_kx563
set_option maxRecDepth 100000 in
set_option maxHeartbeats 4000000 in
theorem t_L_isSo_j496 {rk1 rk2 rp1 rp2 : Nat} (X : VX p s m args c cL_isSo 20 RL wsL_isSo D cI cL cS aC N0 ad0 len0 N ad len) (Y : RX meth (some .boolean)) (hL : LK N len) {q10 : Nat} {x8 : Int32} {x11 : Int32} {x12 : Int32} {x15 : Int32} {x16 : Int32} {s0 : Int32} {w : Wd} {kc : Int32 → Int32 → Wd → Option (Int32 × Wd)} {kx563 : Int32 → Wd → Option (Int32 × Wd)} {out : Int32 × Wd} (hq10 : RW N len q10 4) (hB1 : cells + (0 + rk1) ≤ 1) (hB2 : slots + (0 + rk2) ≤ 4) (hX1 : 0 + rp1 ≤ rk1) (hX2 : 0 + rp2 ≤ rk2) (hf : m_L_isSo_j496 N q10 x8 x11 x12 x15 x16 s0 w kc kx563 = some out) (hk_kc : ∀ (cells slots : Nat) (y9 : Int32) (y16 : Int32) (v : Wd), cells + rk1 ≤ 1 → slots + rk2 ≤ 4 → kc y9 y16 v = some out → VJ p l e rmL_isSo s m args below meth c (MQ below (QZi D N0 ad0 (cellL cI cL cS aC len0) out.1 out.2 s.heap.size) args s 1 4 (AF N0 ad0 s.heap.size)) 20 D cI cL cS aC N0 ad0 N ad len cells slots v 454 [(0, .ref (ad 472)), (1, .ref (ad 490)), (2, .ref (ad 491)), (3, .ref (ad 492)), (4, .ref (ad 493)), (5, .ref (ad 494)), (6, .ref (ad 495)), (7, .ref (ad 496)), (8, .int x8), (9, .int y9), (10, .ref (ad q10)), (11, .int x11), (12, .int x12), (15, .int x15), (16, .int y16)] []) (hk_kx563 : ∀ (cells slots : Nat) (y9 : Int32) (v : Wd), cells + (0 + rp1) ≤ 1 → slots + (0 + rp2) ≤ 4 → kx563 y9 v = some out → VJ p l e rmL_isSo s m args below meth c (MQ below (QZi D N0 ad0 (cellL cI cL cS aC len0) out.1 out.2 s.heap.size) args s 1 4 (AF N0 ad0 s.heap.size)) 20 D cI cL cS aC N0 ad0 N ad len cells slots v 563 [(0, .ref (ad 472)), (1, .ref (ad 490)), (2, .ref (ad 491)), (3, .ref (ad 492)), (4, .ref (ad 493)), (5, .ref (ad 494)), (6, .ref (ad 495)), (7, .ref (ad 496)), (8, .int x8), (9, .int y9), (10, .ref (ad q10)), (11, .int x11), (12, .int x12)] []) : VJ p l e rmL_isSo s m args below meth c (MQ below (QZi D N0 ad0 (cellL cI cL cS aC len0) out.1 out.2 s.heap.size) args s 1 4 (AF N0 ad0 s.heap.size)) 20 D cI cL cS aC N0 ad0 N ad len cells slots w 496 [(0, .ref (ad 472)), (1, .ref (ad 490)), (2, .ref (ad 491)), (3, .ref (ad 492)), (4, .ref (ad 493)), (5, .ref (ad 494)), (6, .ref (ad 495)), (7, .ref (ad 496)), (8, .int x8), (10, .ref (ad q10)), (11, .int x11), (12, .int x12), (15, .int x15), (16, .int x16)] [.int s0] := by
  unfold m_L_isSo_j496 at hf
  have hN := hL.1
  refine v_istore (lv' := [(0, .ref (ad 472)), (1, .ref (ad 490)), (2, .ref (ad 491)), (3, .ref (ad 492)), (4, .ref (ad 493)), (5, .ref (ad 494)), (6, .ref (ad 495)), (7, .ref (ad 496)), (8, .int x8), (10, .ref (ad q10)), (11, .int x11), (12, .int x12), (15, .int x15), (16, .int x16), (17, .int s0)]) X dL_isSo_496 (by decide) rfl ?_
  refine v_aload_n X 0 dL_isSo_498 rfl rfl ?_
  refine v_iload X 11 dL_isSo_499 rfl ?_
  refine v_iload X 13 dL_isSo_501 rfl ?_
  obtain ⟨o1, ho1, hf⟩ := f_bd hf
  refine v_callCi X hL.n490 [.int x12, .int x16] (c_X7_kept X.inC ho1) (cwV 2 X.2.2.2.2.1 gL_isSo_X7_kept rfl rfl rfl (by decide +kernel) ⟨Nat.le_of_ble_eq_true rfl, Nat.le_of_ble_eq_true rfl⟩) rfl rfl (Nat.le_of_ble_eq_true rfl) ⟨by show _ ≤ 1; omega, by show _ ≤ 4; omega⟩ dL_isSo_503 wj_self.symm ?_
  refine v_iload X 14 dL_isSo_506 rfl ?_
  obtain ⟨o2, ho2, hf⟩ := f_bd hf
  refine v_callSi X [.int s0] (c_L_shown X.inj ho2) (va_cwS 1 X.2.2.2.2.1 gL_isSo_L_shown rfl rfl rfl (by decide +kernel) ⟨Nat.le_of_ble_eq_true rfl, Nat.le_of_ble_eq_true rfl⟩) rfl rfl (Nat.le_of_ble_eq_true rfl) ⟨by show _ ≤ 1; omega, by show _ ≤ 4; omega⟩ dL_isSo_508 ?_
  refine v_icmp_ne (tgt := 554) X dL_isSo_511 (by decide) (fun c => ?_) (fun c => ?_)
  · replace hf := f_t c hf
    refine v_sub [0, 1, 2, 3, 4, 5, 6, 7, 8, 9, 10, 11, 12, 13] rfl ?_
    exact t_L_isSo_j554 (rk1 := rk1) (rk2 := rk2) (rp1 := rp1) (rp2 := rp2) X Y hL hq10 (by omega) (by omega) (by omega) (by omega) hf hk_kc hk_kx563
  replace hf := f_fn c hf
  refine v_iload X 14 dL_isSo_514 rfl ?_
  refine v_bipush X (v := (nI 16)) (by decide) dL_isSo_516 ?_
  refine v_irem X (by decide) dL_isSo_518 ?_
  refine v_aload X 9 dL_isSo_519 rfl ?_
  refine v_iload X 14 dL_isSo_521 rfl ?_
  refine v_bipush X (v := (nI 16)) (by decide) dL_isSo_523 ?_
  refine v_idiv X (by decide) dL_isSo_525 ?_
  obtain ⟨hi3, hf⟩ := f_c hf
  refine v_iald X hq10 hi3 dL_isSo_526 ?_
  refine v_icmp_gt (tgt := 550) X dL_isSo_527 (by decide) (fun c => ?_) (fun c => ?_)
  · replace hf := f_t c hf
    refine v_sub [0, 1, 2, 3, 4, 5, 6, 7, 8, 9, 10, 11, 12, 13] rfl ?_
    exact t_L_isSo_j550 (rk1 := rk1) (rk2 := rk2) (rp1 := rp1) (rp2 := rp2) X Y hL hq10 (by omega) (by omega) (by omega) (by omega) hf hk_kc hk_kx563
  replace hf := f_f c hf
  refine v_aload_n X 0 dL_isSo_530 rfl rfl ?_
  refine v_iload X 11 dL_isSo_531 rfl ?_
  refine v_iload X 14 dL_isSo_533 rfl ?_
  refine v_bipush X (v := (nI 16)) (by decide) dL_isSo_535 ?_
  refine v_idiv X (by decide) dL_isSo_537 ?_
  refine v_iload X 14 dL_isSo_538 rfl ?_
  refine v_bipush X (v := (nI 16)) (by decide) dL_isSo_540 ?_
  refine v_irem X (by decide) dL_isSo_542 ?_
  obtain ⟨o4, ho4, hf⟩ := f_bd hf
  obtain ⟨w5, ew5, hf⟩ := f_lt hf
  refine v_callCi X hL.n490 [.int x12, .int (s0 / (nI 16)), .int (s0 - s0 / (nI 16) * (nI 16))] (c_X7_status X.inC ho4) (cwV 3 X.2.2.2.2.1 gL_isSo_X7_status rfl rfl rfl (by decide +kernel) ⟨Nat.le_of_ble_eq_true rfl, Nat.le_of_ble_eq_true rfl⟩) rfl rfl (Nat.le_of_ble_eq_true rfl) ⟨by show _ ≤ 1; omega, by show _ ≤ 4; omega⟩ dL_isSo_543 ew5 ?_
  refine v_iconst X (v := (nI 3)) (by decide) dL_isSo_546 ?_
  refine v_icmp_ne (tgt := 554) X dL_isSo_547 (by decide) (fun c => ?_) (fun c => ?_)
  · replace hf := f_t c hf
    refine v_sub [0, 1, 2, 3, 4, 5, 6, 7, 8, 9, 10, 11, 12, 13] rfl ?_
    exact t_L_isSo_j554 (rk1 := rk1) (rk2 := rk2) (rp1 := rp1) (rp2 := rp2) X Y hL hq10 (by omega) (by omega) (by omega) (by omega) hf hk_kc hk_kx563
  replace hf := f_fn c hf
  refine v_sub [0, 1, 2, 3, 4, 5, 6, 7, 8, 9, 10, 11, 12, 13] rfl ?_
  exact t_L_isSo_j550 (rk1 := rk1) (rk2 := rk2) (rp1 := rp1) (rp2 := rp2) X Y hL hq10 (by omega) (by omega) (by omega) (by omega) hf hk_kc hk_kx563
set_option maxRecDepth 100000 in
set_option maxHeartbeats 4000000 in
theorem t_L_isSo_L454 {rp1 rp2 : Nat} (X : VX p s m args c cL_isSo 20 RL wsL_isSo D cI cL cS aC N0 ad0 len0 N ad len) (Y : RX meth (some .boolean)) (hL : LK N len) {q10 : Nat} {x8 : Int32} {x11 : Int32} {x12 : Int32} {x15 : Int32} {kx563 : Int32 → Wd → Option (Int32 × Wd)} {out : Int32 × Wd} (hq10 : RW N len q10 4) (hk_kx563 : ∀ (cells slots : Nat) (y9 : Int32) (v : Wd), cells + (0 + rp1) ≤ 1 → slots + (0 + rp2) ≤ 4 → kx563 y9 v = some out → VJ p l e rmL_isSo s m args below meth c (MQ below (QZi D N0 ad0 (cellL cI cL cS aC len0) out.1 out.2 s.heap.size) args s 1 4 (AF N0 ad0 s.heap.size)) 20 D cI cL cS aC N0 ad0 N ad len cells slots v 563 [(0, .ref (ad 472)), (1, .ref (ad 490)), (2, .ref (ad 491)), (3, .ref (ad 492)), (4, .ref (ad 493)), (5, .ref (ad 494)), (6, .ref (ad 495)), (7, .ref (ad 496)), (8, .int x8), (9, .int y9), (10, .ref (ad q10)), (11, .int x11), (12, .int x12)] []) : ∀ (n : Nat) (cells slots : Nat) (x9 : Int32) (x16 : Int32) (w : Wd), cells + (n * 0 + (0 + rp1)) ≤ 1 → slots + (n * 0 + (0 + rp2)) ≤ 4 → m_L_isSo_L454 N q10 x8 x11 x12 x15 kx563 n x9 x16 w = some out → VJ p l e rmL_isSo s m args below meth c (MQ below (QZi D N0 ad0 (cellL cI cL cS aC len0) out.1 out.2 s.heap.size) args s 1 4 (AF N0 ad0 s.heap.size)) 20 D cI cL cS aC N0 ad0 N ad len cells slots w 454 [(0, .ref (ad 472)), (1, .ref (ad 490)), (2, .ref (ad 491)), (3, .ref (ad 492)), (4, .ref (ad 493)), (5, .ref (ad 494)), (6, .ref (ad 495)), (7, .ref (ad 496)), (8, .int x8), (9, .int x9), (10, .ref (ad q10)), (11, .int x11), (12, .int x12), (15, .int x15), (16, .int x16)] [] := by
  intro n
  induction n with
  | zero => intro cells slots x9 x16 w hB1 hB2 hf; exact f_n hf
  | succ n ih =>
    intro cells slots x9 x16 w hB1 hB2 hf
    rw [m_L_isSo_L454] at hf
    have hN := hL.1
    refine v_iload X 14 dL_isSo_454 rfl ?_
    refine v_iload X 13 dL_isSo_456 rfl ?_
    refine v_icmp_ge (tgt := 563) X dL_isSo_458 (by decide) (fun c => ?_) (fun c => ?_)
    · replace hf := f_t c hf
      refine v_sub [0, 1, 2, 3, 4, 5, 6, 7, 8, 9, 10, 11, 12] rfl ?_
      exact hk_kx563 _ _ _ _ (by omega) (by omega) hf
    replace hf := f_f c hf
    refine v_iload X 9 dL_isSo_461 rfl ?_
    refine v_if_eq (tgt := 563) X dL_isSo_463 (by decide) (fun c => ?_) (fun c => ?_)
    · replace hf := f_t c hf
      refine v_sub [0, 1, 2, 3, 4, 5, 6, 7, 8, 9, 10, 11, 12] rfl ?_
      exact hk_kx563 _ _ _ _ (by omega) (by omega) hf
    replace hf := f_f c hf
    refine v_iload X 12 dL_isSo_466 rfl ?_
    refine v_if_ne (tgt := 481) X dL_isSo_468 (by decide) (fun c => ?_) (fun c => ?_)
    · replace hf := f_t c hf
      refine v_aload X 6 dL_isSo_481 rfl ?_
      refine v_bipush X (v := (nI 13)) (by decide) dL_isSo_483 ?_
      refine v_iload X 12 dL_isSo_485 rfl ?_
      refine v_iconst X (v := (nI 1)) (by decide) dL_isSo_487 ?_
      refine v_isub X dL_isSo_488 ?_
      refine v_imul X dL_isSo_489 ?_
      refine v_iconst X (v := (nI 1)) (by decide) dL_isSo_490 ?_
      refine v_iadd X dL_isSo_491 ?_
      refine v_iload X 14 dL_isSo_492 rfl ?_
      refine v_iadd X dL_isSo_494 ?_
      obtain ⟨hi1, hf⟩ := f_c hf
      refine v_iald X (lk5 hL) hi1 dL_isSo_495 ?_
      refine v_sub [0, 1, 2, 3, 4, 5, 6, 7, 8, 10, 11, 12, 13, 14] rfl ?_
      exact t_L_isSo_j496 (rk1 := (n * 0 + (0 + rp1))) (rk2 := (n * 0 + (0 + rp2))) (rp1 := rp1) (rp2 := rp2) X Y hL hq10 (by omega) (by omega) (by omega) (by omega) hf ih hk_kx563
    replace hf := f_fn c hf
    refine v_aload X 7 dL_isSo_471 rfl ?_
    refine v_iconst X (v := (nI 1)) (by decide) dL_isSo_473 ?_
    refine v_iload X 14 dL_isSo_474 rfl ?_
    refine v_iadd X dL_isSo_476 ?_
    obtain ⟨hi2, hf⟩ := f_c hf
    refine v_iald X (lk6 hL) hi2 dL_isSo_477 ?_
    refine v_goto (tgt := 496) X dL_isSo_478 (by decide) ?_
    refine v_sub [0, 1, 2, 3, 4, 5, 6, 7, 8, 10, 11, 12, 13, 14] rfl ?_
    exact t_L_isSo_j496 (rk1 := (n * 0 + (0 + rp1))) (rk2 := (n * 0 + (0 + rp2))) (rp1 := rp1) (rp2 := rp2) X Y hL hq10 (by omega) (by omega) (by omega) (by omega) hf ih hk_kx563
set_option maxRecDepth 100000 in
set_option maxHeartbeats 4000000 in
theorem t_L_isSo_j695 {rk1 rk2 rp1 rp2 : Nat} (X : VX p s m args c cL_isSo 20 RL wsL_isSo D cI cL cS aC N0 ad0 len0 N ad len) (Y : RX meth (some .boolean)) (hL : LK N len) {q10 : Nat} {q17 : Nat} {x8 : Int32} {x11 : Int32} {x12 : Int32} {x16 : Int32} {x18 : Int32} {x19 : Int32} {s0 : Int32} {w : Wd} {kc : Int32 → Int32 → Wd → Option (Int32 × Wd)} {kx703 : Int32 → Wd → Option (Int32 × Wd)} {out : Int32 × Wd} (hq10 : RW N len q10 4) (hq17 : RW N len q17 52) (hB1 : cells + (0 + rk1) ≤ 1) (hB2 : slots + (0 + rk2) ≤ 4) (hX1 : 0 + rp1 ≤ rk1) (hX2 : 0 + rp2 ≤ rk2) (hf : m_L_isSo_j695 N q10 q17 x8 x11 x12 x16 x18 x19 s0 w kc kx703 = some out) (hk_kc : ∀ (cells slots : Nat) (y9 : Int32) (y19 : Int32) (v : Wd), cells + rk1 ≤ 1 → slots + rk2 ≤ 4 → kc y9 y19 v = some out → VJ p l e rmL_isSo s m args below meth c (MQ below (QZi D N0 ad0 (cellL cI cL cS aC len0) out.1 out.2 s.heap.size) args s 1 4 (AF N0 ad0 s.heap.size)) 20 D cI cL cS aC N0 ad0 N ad len cells slots v 647 [(0, .ref (ad 472)), (1, .ref (ad 490)), (2, .ref (ad 491)), (3, .ref (ad 492)), (4, .ref (ad 493)), (5, .ref (ad 494)), (6, .ref (ad 495)), (7, .ref (ad 496)), (8, .int x8), (9, .int y9), (10, .ref (ad q10)), (11, .int x11), (12, .int x12), (16, .int x16), (17, .ref (ad q17)), (18, .int x18), (19, .int y19)] []) (hk_kx703 : ∀ (cells slots : Nat) (y9 : Int32) (v : Wd), cells + (0 + rp1) ≤ 1 → slots + (0 + rp2) ≤ 4 → kx703 y9 v = some out → VJ p l e rmL_isSo s m args below meth c (MQ below (QZi D N0 ad0 (cellL cI cL cS aC len0) out.1 out.2 s.heap.size) args s 1 4 (AF N0 ad0 s.heap.size)) 20 D cI cL cS aC N0 ad0 N ad len cells slots v 703 [(0, .ref (ad 472)), (1, .ref (ad 490)), (2, .ref (ad 491)), (3, .ref (ad 492)), (4, .ref (ad 493)), (5, .ref (ad 494)), (6, .ref (ad 495)), (7, .ref (ad 496)), (8, .int x8), (9, .int y9), (10, .ref (ad q10)), (11, .int x11), (12, .int x12), (16, .int x16)] []) : VJ p l e rmL_isSo s m args below meth c (MQ below (QZi D N0 ad0 (cellL cI cL cS aC len0) out.1 out.2 s.heap.size) args s 1 4 (AF N0 ad0 s.heap.size)) 20 D cI cL cS aC N0 ad0 N ad len cells slots w 695 [(0, .ref (ad 472)), (1, .ref (ad 490)), (2, .ref (ad 491)), (3, .ref (ad 492)), (4, .ref (ad 493)), (5, .ref (ad 494)), (6, .ref (ad 495)), (7, .ref (ad 496)), (8, .int x8), (10, .ref (ad q10)), (11, .int x11), (12, .int x12), (16, .int x16), (17, .ref (ad q17)), (18, .int x18), (19, .int x19)] [.int s0] := by
  unfold m_L_isSo_j695 at hf
  have hN := hL.1
  refine v_istore (lv' := [(0, .ref (ad 472)), (1, .ref (ad 490)), (2, .ref (ad 491)), (3, .ref (ad 492)), (4, .ref (ad 493)), (5, .ref (ad 494)), (6, .ref (ad 495)), (7, .ref (ad 496)), (8, .int x8), (9, .int s0), (10, .ref (ad q10)), (11, .int x11), (12, .int x12), (16, .int x16), (17, .ref (ad q17)), (18, .int x18), (19, .int x19)]) X dL_isSo_695 (by decide) rfl ?_
  refine v_iinc (v := (x19 + (nI 1))) (lv' := [(0, .ref (ad 472)), (1, .ref (ad 490)), (2, .ref (ad 491)), (3, .ref (ad 492)), (4, .ref (ad 493)), (5, .ref (ad 494)), (6, .ref (ad 495)), (7, .ref (ad 496)), (8, .int x8), (9, .int s0), (10, .ref (ad q10)), (11, .int x11), (12, .int x12), (16, .int x16), (17, .ref (ad q17)), (18, .int x18), (19, .int (x19 + (nI 1)))]) X 16 dL_isSo_697 rfl rfl (by decide) rfl ?_
  refine v_goto (tgt := 647) X dL_isSo_700 (by decide) ?_
  exact hk_kc _ _ _ _ _ (by omega) (by omega) hf
set_option maxRecDepth 100000 in
set_option maxHeartbeats 4000000 in
theorem t_L_isSo_j694 {rk1 rk2 rp1 rp2 : Nat} (X : VX p s m args c cL_isSo 20 RL wsL_isSo D cI cL cS aC N0 ad0 len0 N ad len) (Y : RX meth (some .boolean)) (hL : LK N len) {q10 : Nat} {q17 : Nat} {x8 : Int32} {x11 : Int32} {x12 : Int32} {x16 : Int32} {x18 : Int32} {x19 : Int32} {w : Wd} {kc : Int32 → Int32 → Wd → Option (Int32 × Wd)} {kx703 : Int32 → Wd → Option (Int32 × Wd)} {out : Int32 × Wd} (hq10 : RW N len q10 4) (hq17 : RW N len q17 52) (hB1 : cells + (0 + rk1) ≤ 1) (hB2 : slots + (0 + rk2) ≤ 4) (hX1 : 0 + rp1 ≤ rk1) (hX2 : 0 + rp2 ≤ rk2) (hf : m_L_isSo_j694 N q10 q17 x8 x11 x12 x16 x18 x19 w kc kx703 = some out) (hk_kc : ∀ (cells slots : Nat) (y9 : Int32) (y19 : Int32) (v : Wd), cells + rk1 ≤ 1 → slots + rk2 ≤ 4 → kc y9 y19 v = some out → VJ p l e rmL_isSo s m args below meth c (MQ below (QZi D N0 ad0 (cellL cI cL cS aC len0) out.1 out.2 s.heap.size) args s 1 4 (AF N0 ad0 s.heap.size)) 20 D cI cL cS aC N0 ad0 N ad len cells slots v 647 [(0, .ref (ad 472)), (1, .ref (ad 490)), (2, .ref (ad 491)), (3, .ref (ad 492)), (4, .ref (ad 493)), (5, .ref (ad 494)), (6, .ref (ad 495)), (7, .ref (ad 496)), (8, .int x8), (9, .int y9), (10, .ref (ad q10)), (11, .int x11), (12, .int x12), (16, .int x16), (17, .ref (ad q17)), (18, .int x18), (19, .int y19)] []) (hk_kx703 : ∀ (cells slots : Nat) (y9 : Int32) (v : Wd), cells + (0 + rp1) ≤ 1 → slots + (0 + rp2) ≤ 4 → kx703 y9 v = some out → VJ p l e rmL_isSo s m args below meth c (MQ below (QZi D N0 ad0 (cellL cI cL cS aC len0) out.1 out.2 s.heap.size) args s 1 4 (AF N0 ad0 s.heap.size)) 20 D cI cL cS aC N0 ad0 N ad len cells slots v 703 [(0, .ref (ad 472)), (1, .ref (ad 490)), (2, .ref (ad 491)), (3, .ref (ad 492)), (4, .ref (ad 493)), (5, .ref (ad 494)), (6, .ref (ad 495)), (7, .ref (ad 496)), (8, .int x8), (9, .int y9), (10, .ref (ad q10)), (11, .int x11), (12, .int x12), (16, .int x16)] []) : VJ p l e rmL_isSo s m args below meth c (MQ below (QZi D N0 ad0 (cellL cI cL cS aC len0) out.1 out.2 s.heap.size) args s 1 4 (AF N0 ad0 s.heap.size)) 20 D cI cL cS aC N0 ad0 N ad len cells slots w 694 [(0, .ref (ad 472)), (1, .ref (ad 490)), (2, .ref (ad 491)), (3, .ref (ad 492)), (4, .ref (ad 493)), (5, .ref (ad 494)), (6, .ref (ad 495)), (7, .ref (ad 496)), (8, .int x8), (10, .ref (ad q10)), (11, .int x11), (12, .int x12), (16, .int x16), (17, .ref (ad q17)), (18, .int x18), (19, .int x19)] [] := by
  unfold m_L_isSo_j694 at hf
  have hN := hL.1
  refine v_iconst X (v := (nI 0)) (by decide) dL_isSo_694 ?_
  exact t_L_isSo_j695 (rk1 := rk1) (rk2 := rk2) (rp1 := rp1) (rp2 := rp2) X Y hL hq10 hq17 (by omega) (by omega) (by omega) (by omega) hf hk_kc hk_kx703
set_option maxRecDepth 100000 in
set_option maxHeartbeats 4000000 in
theorem t_L_isSo_L647 {rp1 rp2 : Nat} (X : VX p s m args c cL_isSo 20 RL wsL_isSo D cI cL cS aC N0 ad0 len0 N ad len) (Y : RX meth (some .boolean)) (hL : LK N len) {q10 : Nat} {q17 : Nat} {x8 : Int32} {x11 : Int32} {x12 : Int32} {x16 : Int32} {x18 : Int32} {kx703 : Int32 → Wd → Option (Int32 × Wd)} {out : Int32 × Wd} (hq10 : RW N len q10 4) (hq17 : RW N len q17 52) (hk_kx703 : ∀ (cells slots : Nat) (y9 : Int32) (v : Wd), cells + (0 + rp1) ≤ 1 → slots + (0 + rp2) ≤ 4 → kx703 y9 v = some out → VJ p l e rmL_isSo s m args below meth c (MQ below (QZi D N0 ad0 (cellL cI cL cS aC len0) out.1 out.2 s.heap.size) args s 1 4 (AF N0 ad0 s.heap.size)) 20 D cI cL cS aC N0 ad0 N ad len cells slots v 703 [(0, .ref (ad 472)), (1, .ref (ad 490)), (2, .ref (ad 491)), (3, .ref (ad 492)), (4, .ref (ad 493)), (5, .ref (ad 494)), (6, .ref (ad 495)), (7, .ref (ad 496)), (8, .int x8), (9, .int y9), (10, .ref (ad q10)), (11, .int x11), (12, .int x12), (16, .int x16)] []) : ∀ (n : Nat) (cells slots : Nat) (x9 : Int32) (x19 : Int32) (w : Wd), cells + (n * 0 + (0 + rp1)) ≤ 1 → slots + (n * 0 + (0 + rp2)) ≤ 4 → m_L_isSo_L647 N q10 q17 x8 x11 x12 x16 x18 kx703 n x9 x19 w = some out → VJ p l e rmL_isSo s m args below meth c (MQ below (QZi D N0 ad0 (cellL cI cL cS aC len0) out.1 out.2 s.heap.size) args s 1 4 (AF N0 ad0 s.heap.size)) 20 D cI cL cS aC N0 ad0 N ad len cells slots w 647 [(0, .ref (ad 472)), (1, .ref (ad 490)), (2, .ref (ad 491)), (3, .ref (ad 492)), (4, .ref (ad 493)), (5, .ref (ad 494)), (6, .ref (ad 495)), (7, .ref (ad 496)), (8, .int x8), (9, .int x9), (10, .ref (ad q10)), (11, .int x11), (12, .int x12), (16, .int x16), (17, .ref (ad q17)), (18, .int x18), (19, .int x19)] [] := by
  intro n
  induction n with
  | zero => intro cells slots x9 x19 w hB1 hB2 hf; exact f_n hf
  | succ n ih =>
    intro cells slots x9 x19 w hB1 hB2 hf
    rw [m_L_isSo_L647] at hf
    have hN := hL.1
    refine v_iload X 16 dL_isSo_647 rfl ?_
    refine v_iload X 15 dL_isSo_649 rfl ?_
    refine v_icmp_ge (tgt := 703) X dL_isSo_651 (by decide) (fun c => ?_) (fun c => ?_)
    · replace hf := f_t c hf
      refine v_sub [0, 1, 2, 3, 4, 5, 6, 7, 8, 9, 10, 11, 12, 13] rfl ?_
      exact hk_kx703 _ _ _ _ (by omega) (by omega) hf
    replace hf := f_f c hf
    refine v_iload X 9 dL_isSo_654 rfl ?_
    refine v_if_eq (tgt := 694) X dL_isSo_656 (by decide) (fun c => ?_) (fun c => ?_)
    · replace hf := f_t c hf
      refine v_sub [0, 1, 2, 3, 4, 5, 6, 7, 8, 10, 11, 12, 13, 14, 15, 16] rfl ?_
      exact t_L_isSo_j694 (rk1 := (n * 0 + (0 + rp1))) (rk2 := (n * 0 + (0 + rp2))) (rp1 := rp1) (rp2 := rp2) X Y hL hq10 hq17 (by omega) (by omega) (by omega) (by omega) hf ih hk_kx703
    replace hf := f_f c hf
    refine v_aload_n X 0 dL_isSo_659 rfl rfl ?_
    refine v_iload X 12 dL_isSo_660 rfl ?_
    refine v_iload X 13 dL_isSo_662 rfl ?_
    refine v_iload X 16 dL_isSo_664 rfl ?_
    obtain ⟨o1, ho1, hf⟩ := f_bd hf
    refine v_callCi X hL.n490 [.int x12, .int x16, .int x19] (c_X7_queued X.inC ho1) (cwV 3 X.2.2.2.2.1 gL_isSo_X7_queued rfl rfl rfl (by decide +kernel) ⟨Nat.le_of_ble_eq_true rfl, Nat.le_of_ble_eq_true rfl⟩) rfl rfl (Nat.le_of_ble_eq_true rfl) ⟨by show _ ≤ 1; omega, by show _ ≤ 4; omega⟩ dL_isSo_666 wj_self.symm ?_
    refine v_aload X 14 dL_isSo_669 rfl ?_
    refine v_bipush X (v := (nI 13)) (by decide) dL_isSo_671 ?_
    refine v_iload X 12 dL_isSo_673 rfl ?_
    refine v_iconst X (v := (nI 1)) (by decide) dL_isSo_675 ?_
    refine v_isub X dL_isSo_676 ?_
    refine v_imul X dL_isSo_677 ?_
    refine v_iconst X (v := (nI 1)) (by decide) dL_isSo_678 ?_
    refine v_iadd X dL_isSo_679 ?_
    refine v_iload X 16 dL_isSo_680 rfl ?_
    refine v_iadd X dL_isSo_682 ?_
    obtain ⟨hi2, hf⟩ := f_c hf
    refine v_iald X hq17 hi2 dL_isSo_683 ?_
    obtain ⟨o3, ho3, hf⟩ := f_bd hf
    refine v_callSi X [.int (w q17 ((((nI 13) * (x12 - (nI 1))) + (nI 1)) + x19).toNatClampNeg)] (c_L_shown X.inj ho3) (va_cwS 1 X.2.2.2.2.1 gL_isSo_L_shown rfl rfl rfl (by decide +kernel) ⟨Nat.le_of_ble_eq_true rfl, Nat.le_of_ble_eq_true rfl⟩) rfl rfl (Nat.le_of_ble_eq_true rfl) ⟨by show _ ≤ 1; omega, by show _ ≤ 4; omega⟩ dL_isSo_684 ?_
    refine v_icmp_ne (tgt := 694) X dL_isSo_687 (by decide) (fun c => ?_) (fun c => ?_)
    · replace hf := f_t c hf
      refine v_sub [0, 1, 2, 3, 4, 5, 6, 7, 8, 10, 11, 12, 13, 14, 15, 16] rfl ?_
      exact t_L_isSo_j694 (rk1 := (n * 0 + (0 + rp1))) (rk2 := (n * 0 + (0 + rp2))) (rp1 := rp1) (rp2 := rp2) X Y hL hq10 hq17 (by omega) (by omega) (by omega) (by omega) hf ih hk_kx703
    replace hf := f_fn c hf
    refine v_iconst X (v := (nI 1)) (by decide) dL_isSo_690 ?_
    refine v_goto (tgt := 695) X dL_isSo_691 (by decide) ?_
    refine v_sub [0, 1, 2, 3, 4, 5, 6, 7, 8, 10, 11, 12, 13, 14, 15, 16] rfl ?_
    exact t_L_isSo_j695 (rk1 := (n * 0 + (0 + rp1))) (rk2 := (n * 0 + (0 + rp2))) (rp1 := rp1) (rp2 := rp2) X Y hL hq10 hq17 (by omega) (by omega) (by omega) (by omega) hf ih hk_kx703
set_option maxRecDepth 100000 in
set_option maxHeartbeats 4000000 in
theorem t_L_isSo_j642 {rk1 rk2 rp1 rp2 : Nat} (X : VX p s m args c cL_isSo 20 RL wsL_isSo D cI cL cS aC N0 ad0 len0 N ad len) (Y : RX meth (some .boolean)) (hL : LK N len) {q10 : Nat} {q17 : Nat} {x8 : Int32} {x11 : Int32} {x12 : Int32} {x16 : Int32} {x18 : Int32} {s0 : Int32} {w : Wd} {kc : Int32 → Int32 → Wd → Option (Int32 × Wd)} {kx709 : Int32 → Wd → Option (Int32 × Wd)} {out : Int32 × Wd} (hq10 : RW N len q10 4) (hq17 : RW N len q17 52) (hB1 : cells + (0 + rk1) ≤ 1) (hB2 : slots + (0 + rk2) ≤ 4) (hX1 : 0 + rp1 ≤ rk1) (hX2 : 0 + rp2 ≤ rk2) (hf : m_L_isSo_j642 N q10 q17 x8 x11 x12 x16 x18 s0 w kc kx709 = some out) (hk_kc : ∀ (cells slots : Nat) (y9 : Int32) (y16 : Int32) (v : Wd), cells + rk1 ≤ 1 → slots + rk2 ≤ 4 → kc y9 y16 v = some out → VJ p l e rmL_isSo s m args below meth c (MQ below (QZi D N0 ad0 (cellL cI cL cS aC len0) out.1 out.2 s.heap.size) args s 1 4 (AF N0 ad0 s.heap.size)) 20 D cI cL cS aC N0 ad0 N ad len cells slots v 566 [(0, .ref (ad 472)), (1, .ref (ad 490)), (2, .ref (ad 491)), (3, .ref (ad 492)), (4, .ref (ad 493)), (5, .ref (ad 494)), (6, .ref (ad 495)), (7, .ref (ad 496)), (8, .int x8), (9, .int y9), (10, .ref (ad q10)), (11, .int x11), (12, .int x12), (16, .int y16)] []) (hk_kx709 : ∀ (cells slots : Nat) (y9 : Int32) (v : Wd), cells + (0 + rp1) ≤ 1 → slots + (0 + rp2) ≤ 4 → kx709 y9 v = some out → VJ p l e rmL_isSo s m args below meth c (MQ below (QZi D N0 ad0 (cellL cI cL cS aC len0) out.1 out.2 s.heap.size) args s 1 4 (AF N0 ad0 s.heap.size)) 20 D cI cL cS aC N0 ad0 N ad len cells slots v 709 [(0, .ref (ad 472)), (1, .ref (ad 490)), (2, .ref (ad 491)), (3, .ref (ad 492)), (4, .ref (ad 493)), (5, .ref (ad 494)), (6, .ref (ad 495)), (7, .ref (ad 496)), (8, .int x8), (9, .int y9), (10, .ref (ad q10)), (11, .int x11), (12, .int x12)] []) : VJ p l e rmL_isSo s m args below meth c (MQ below (QZi D N0 ad0 (cellL cI cL cS aC len0) out.1 out.2 s.heap.size) args s 1 4 (AF N0 ad0 s.heap.size)) 20 D cI cL cS aC N0 ad0 N ad len cells slots w 642 [(0, .ref (ad 472)), (1, .ref (ad 490)), (2, .ref (ad 491)), (3, .ref (ad 492)), (4, .ref (ad 493)), (5, .ref (ad 494)), (6, .ref (ad 495)), (7, .ref (ad 496)), (8, .int x8), (10, .ref (ad q10)), (11, .int x11), (12, .int x12), (16, .int x16), (17, .ref (ad q17)), (18, .int x18)] [.int s0] := by
  unfold m_L_isSo_j642 at hf
  have hN := hL.1
  refine v_istore (lv' := [(0, .ref (ad 472)), (1, .ref (ad 490)), (2, .ref (ad 491)), (3, .ref (ad 492)), (4, .ref (ad 493)), (5, .ref (ad 494)), (6, .ref (ad 495)), (7, .ref (ad 496)), (8, .int x8), (9, .int s0), (10, .ref (ad q10)), (11, .int x11), (12, .int x12), (16, .int x16), (17, .ref (ad q17)), (18, .int x18)]) X dL_isSo_642 (by decide) rfl ?_
  refine v_iconst X (v := (nI 0)) (by decide) dL_isSo_644 ?_
  refine v_istore (lv' := [(0, .ref (ad 472)), (1, .ref (ad 490)), (2, .ref (ad 491)), (3, .ref (ad 492)), (4, .ref (ad 493)), (5, .ref (ad 494)), (6, .ref (ad 495)), (7, .ref (ad 496)), (8, .int x8), (9, .int s0), (10, .ref (ad q10)), (11, .int x11), (12, .int x12), (16, .int x16), (17, .ref (ad q17)), (18, .int x18), (19, .int (nI 0))]) X dL_isSo_645 (by decide) rfl ?_
  refine t_L_isSo_L647 (rp1 := rk1) (rp2 := rk2) X Y hL hq10 hq17 ?_ _ _ _ _ _ _ ?_ ?_ hf
  · intro cells slots x9_1 w2 hB1 hB2 hf
    refine v_iinc (v := (x16 + (nI 1))) (lv' := [(0, .ref (ad 472)), (1, .ref (ad 490)), (2, .ref (ad 491)), (3, .ref (ad 492)), (4, .ref (ad 493)), (5, .ref (ad 494)), (6, .ref (ad 495)), (7, .ref (ad 496)), (8, .int x8), (9, .int x9_1), (10, .ref (ad q10)), (11, .int x11), (12, .int x12), (16, .int (x16 + (nI 1)))]) X 13 dL_isSo_703 rfl rfl (by decide) rfl ?_
    refine v_goto (tgt := 566) X dL_isSo_706 (by decide) ?_
    exact hk_kc _ _ _ _ _ (by omega) (by omega) hf
  · have hFU : FU * 0 = 0 := rfl; omega
  · have hFU : FU * 0 = 0 := rfl; omega
set_option maxRecDepth 100000 in
set_option maxHeartbeats 4000000 in
theorem t_L_isSo_j641 {rk1 rk2 rp1 rp2 : Nat} (X : VX p s m args c cL_isSo 20 RL wsL_isSo D cI cL cS aC N0 ad0 len0 N ad len) (Y : RX meth (some .boolean)) (hL : LK N len) {q10 : Nat} {q17 : Nat} {x8 : Int32} {x11 : Int32} {x12 : Int32} {x16 : Int32} {x18 : Int32} {w : Wd} {kc : Int32 → Int32 → Wd → Option (Int32 × Wd)} {kx709 : Int32 → Wd → Option (Int32 × Wd)} {out : Int32 × Wd} (hq10 : RW N len q10 4) (hq17 : RW N len q17 52) (hB1 : cells + (0 + rk1) ≤ 1) (hB2 : slots + (0 + rk2) ≤ 4) (hX1 : 0 + rp1 ≤ rk1) (hX2 : 0 + rp2 ≤ rk2) (hf : m_L_isSo_j641 N q10 q17 x8 x11 x12 x16 x18 w kc kx709 = some out) (hk_kc : ∀ (cells slots : Nat) (y9 : Int32) (y16 : Int32) (v : Wd), cells + rk1 ≤ 1 → slots + rk2 ≤ 4 → kc y9 y16 v = some out → VJ p l e rmL_isSo s m args below meth c (MQ below (QZi D N0 ad0 (cellL cI cL cS aC len0) out.1 out.2 s.heap.size) args s 1 4 (AF N0 ad0 s.heap.size)) 20 D cI cL cS aC N0 ad0 N ad len cells slots v 566 [(0, .ref (ad 472)), (1, .ref (ad 490)), (2, .ref (ad 491)), (3, .ref (ad 492)), (4, .ref (ad 493)), (5, .ref (ad 494)), (6, .ref (ad 495)), (7, .ref (ad 496)), (8, .int x8), (9, .int y9), (10, .ref (ad q10)), (11, .int x11), (12, .int x12), (16, .int y16)] []) (hk_kx709 : ∀ (cells slots : Nat) (y9 : Int32) (v : Wd), cells + (0 + rp1) ≤ 1 → slots + (0 + rp2) ≤ 4 → kx709 y9 v = some out → VJ p l e rmL_isSo s m args below meth c (MQ below (QZi D N0 ad0 (cellL cI cL cS aC len0) out.1 out.2 s.heap.size) args s 1 4 (AF N0 ad0 s.heap.size)) 20 D cI cL cS aC N0 ad0 N ad len cells slots v 709 [(0, .ref (ad 472)), (1, .ref (ad 490)), (2, .ref (ad 491)), (3, .ref (ad 492)), (4, .ref (ad 493)), (5, .ref (ad 494)), (6, .ref (ad 495)), (7, .ref (ad 496)), (8, .int x8), (9, .int y9), (10, .ref (ad q10)), (11, .int x11), (12, .int x12)] []) : VJ p l e rmL_isSo s m args below meth c (MQ below (QZi D N0 ad0 (cellL cI cL cS aC len0) out.1 out.2 s.heap.size) args s 1 4 (AF N0 ad0 s.heap.size)) 20 D cI cL cS aC N0 ad0 N ad len cells slots w 641 [(0, .ref (ad 472)), (1, .ref (ad 490)), (2, .ref (ad 491)), (3, .ref (ad 492)), (4, .ref (ad 493)), (5, .ref (ad 494)), (6, .ref (ad 495)), (7, .ref (ad 496)), (8, .int x8), (10, .ref (ad q10)), (11, .int x11), (12, .int x12), (16, .int x16), (17, .ref (ad q17)), (18, .int x18)] [] := by
  unfold m_L_isSo_j641 at hf
  have hN := hL.1
  refine v_iconst X (v := (nI 0)) (by decide) dL_isSo_641 ?_
  exact t_L_isSo_j642 (rk1 := rk1) (rk2 := rk2) (rp1 := rp1) (rp2 := rp2) X Y hL hq10 hq17 (by omega) (by omega) (by omega) (by omega) hf hk_kc hk_kx709
set_option maxRecDepth 100000 in
set_option maxHeartbeats 4000000 in
theorem t_L_isSo_j594 {rk1 rk2 rp1 rp2 : Nat} (X : VX p s m args c cL_isSo 20 RL wsL_isSo D cI cL cS aC N0 ad0 len0 N ad len) (Y : RX meth (some .boolean)) (hL : LK N len) {q10 : Nat} {r0 : Nat} {x8 : Int32} {x11 : Int32} {x12 : Int32} {x16 : Int32} {w : Wd} {kc : Int32 → Int32 → Wd → Option (Int32 × Wd)} {kx709 : Int32 → Wd → Option (Int32 × Wd)} {out : Int32 × Wd} (hq10 : RW N len q10 4) (hr0 : RW N len r0 52) (hB1 : cells + (0 + rk1) ≤ 1) (hB2 : slots + (0 + rk2) ≤ 4) (hX1 : 0 + rp1 ≤ rk1) (hX2 : 0 + rp2 ≤ rk2) (hf : m_L_isSo_j594 N q10 r0 x8 x11 x12 x16 w kc kx709 = some out) (hk_kc : ∀ (cells slots : Nat) (y9 : Int32) (y16 : Int32) (v : Wd), cells + rk1 ≤ 1 → slots + rk2 ≤ 4 → kc y9 y16 v = some out → VJ p l e rmL_isSo s m args below meth c (MQ below (QZi D N0 ad0 (cellL cI cL cS aC len0) out.1 out.2 s.heap.size) args s 1 4 (AF N0 ad0 s.heap.size)) 20 D cI cL cS aC N0 ad0 N ad len cells slots v 566 [(0, .ref (ad 472)), (1, .ref (ad 490)), (2, .ref (ad 491)), (3, .ref (ad 492)), (4, .ref (ad 493)), (5, .ref (ad 494)), (6, .ref (ad 495)), (7, .ref (ad 496)), (8, .int x8), (9, .int y9), (10, .ref (ad q10)), (11, .int x11), (12, .int x12), (16, .int y16)] []) (hk_kx709 : ∀ (cells slots : Nat) (y9 : Int32) (v : Wd), cells + (0 + rp1) ≤ 1 → slots + (0 + rp2) ≤ 4 → kx709 y9 v = some out → VJ p l e rmL_isSo s m args below meth c (MQ below (QZi D N0 ad0 (cellL cI cL cS aC len0) out.1 out.2 s.heap.size) args s 1 4 (AF N0 ad0 s.heap.size)) 20 D cI cL cS aC N0 ad0 N ad len cells slots v 709 [(0, .ref (ad 472)), (1, .ref (ad 490)), (2, .ref (ad 491)), (3, .ref (ad 492)), (4, .ref (ad 493)), (5, .ref (ad 494)), (6, .ref (ad 495)), (7, .ref (ad 496)), (8, .int x8), (9, .int y9), (10, .ref (ad q10)), (11, .int x11), (12, .int x12)] []) : VJ p l e rmL_isSo s m args below meth c (MQ below (QZi D N0 ad0 (cellL cI cL cS aC len0) out.1 out.2 s.heap.size) args s 1 4 (AF N0 ad0 s.heap.size)) 20 D cI cL cS aC N0 ad0 N ad len cells slots w 594 [(0, .ref (ad 472)), (1, .ref (ad 490)), (2, .ref (ad 491)), (3, .ref (ad 492)), (4, .ref (ad 493)), (5, .ref (ad 494)), (6, .ref (ad 495)), (7, .ref (ad 496)), (8, .int x8), (10, .ref (ad q10)), (11, .int x11), (12, .int x12), (16, .int x16)] [.ref (ad r0)] := by
  unfold m_L_isSo_j594 at hf
  have hN := hL.1
  refine v_astore (lv' := [(0, .ref (ad 472)), (1, .ref (ad 490)), (2, .ref (ad 491)), (3, .ref (ad 492)), (4, .ref (ad 493)), (5, .ref (ad 494)), (6, .ref (ad 495)), (7, .ref (ad 496)), (8, .int x8), (10, .ref (ad q10)), (11, .int x11), (12, .int x12), (16, .int x16), (17, .ref (ad r0))]) X dL_isSo_594 (by decide) rfl ?_
  refine v_aload X 13 dL_isSo_596 rfl ?_
  refine v_bipush X (v := (nI 13)) (by decide) dL_isSo_598 ?_
  refine v_iload X 11 dL_isSo_600 rfl ?_
  refine v_iconst X (v := (nI 1)) (by decide) dL_isSo_602 ?_
  refine v_isub X dL_isSo_603 ?_
  refine v_imul X dL_isSo_604 ?_
  obtain ⟨hi1, hf⟩ := f_c hf
  refine v_iald X hr0 hi1 dL_isSo_605 ?_
  obtain ⟨x18_2, ex18_2, hf⟩ := f_lt hf
  refine v_top ex18_2 ?_
  refine v_istore (lv' := [(0, .ref (ad 472)), (1, .ref (ad 490)), (2, .ref (ad 491)), (3, .ref (ad 492)), (4, .ref (ad 493)), (5, .ref (ad 494)), (6, .ref (ad 495)), (7, .ref (ad 496)), (8, .int x8), (10, .ref (ad q10)), (11, .int x11), (12, .int x12), (16, .int x16), (17, .ref (ad r0)), (18, .int x18_2)]) X dL_isSo_606 (by decide) rfl ?_
  refine v_aload_n X 0 dL_isSo_608 rfl rfl ?_
  refine v_iload X 11 dL_isSo_609 rfl ?_
  refine v_iload X 12 dL_isSo_611 rfl ?_
  refine v_iconst X (v := (-1 : Int32)) (by decide) dL_isSo_613 ?_
  obtain ⟨o3, ho3, hf⟩ := f_bd hf
  refine v_callCi X hL.n490 [.int x12, .int x16, .int (-1 : Int32)] (c_X7_queued X.inC ho3) (cwV 3 X.2.2.2.2.1 gL_isSo_X7_queued rfl rfl rfl (by decide +kernel) ⟨Nat.le_of_ble_eq_true rfl, Nat.le_of_ble_eq_true rfl⟩) rfl rfl (Nat.le_of_ble_eq_true rfl) ⟨by show _ ≤ 1; omega, by show _ ≤ 4; omega⟩ dL_isSo_614 wj_self.symm ?_
  refine v_iload X 14 dL_isSo_617 rfl ?_
  refine v_icmp_ne (tgt := 641) X dL_isSo_619 (by decide) (fun c => ?_) (fun c => ?_)
  · replace hf := f_t c hf
    exact t_L_isSo_j641 (rk1 := rk1) (rk2 := rk2) (rp1 := rp1) (rp2 := rp2) X Y hL hq10 hr0 (by omega) (by omega) (by omega) (by omega) hf hk_kc hk_kx709
  replace hf := f_fn c hf
  refine v_aload_n X 0 dL_isSo_622 rfl rfl ?_
  refine v_iload X 11 dL_isSo_623 rfl ?_
  refine v_iload X 12 dL_isSo_625 rfl ?_
  refine v_iload X 14 dL_isSo_627 rfl ?_
  obtain ⟨o4, ho4, hf⟩ := f_bd hf
  refine v_callCi X hL.n490 [.int x12, .int x16, .int x18_2] (c_X7_queued X.inC ho4) (cwV 3 X.2.2.2.2.1 gL_isSo_X7_queued rfl rfl rfl (by decide +kernel) ⟨Nat.le_of_ble_eq_true rfl, Nat.le_of_ble_eq_true rfl⟩) rfl rfl (Nat.le_of_ble_eq_true rfl) ⟨by show _ ≤ 1; omega, by show _ ≤ 4; omega⟩ dL_isSo_629 wj_self.symm ?_
  refine v_bipush X (v := (-9 : Int32)) (by decide) dL_isSo_632 ?_
  refine v_icmp_ne (tgt := 641) X dL_isSo_634 (by decide) (fun c => ?_) (fun c => ?_)
  · replace hf := f_t c hf
    exact t_L_isSo_j641 (rk1 := rk1) (rk2 := rk2) (rp1 := rp1) (rp2 := rp2) X Y hL hq10 hr0 (by omega) (by omega) (by omega) (by omega) hf hk_kc hk_kx709
  replace hf := f_fn c hf
  refine v_iconst X (v := (nI 1)) (by decide) dL_isSo_637 ?_
  refine v_goto (tgt := 642) X dL_isSo_638 (by decide) ?_
  exact t_L_isSo_j642 (rk1 := rk1) (rk2 := rk2) (rp1 := rp1) (rp2 := rp2) X Y hL hq10 hr0 (by omega) (by omega) (by omega) (by omega) hf hk_kc hk_kx709
set_option maxRecDepth 100000 in
set_option maxHeartbeats 4000000 in
theorem t_L_isSo_L566 {rp1 rp2 : Nat} (X : VX p s m args c cL_isSo 20 RL wsL_isSo D cI cL cS aC N0 ad0 len0 N ad len) (Y : RX meth (some .boolean)) (hL : LK N len) {q10 : Nat} {x8 : Int32} {x11 : Int32} {x12 : Int32} {kx709 : Int32 → Wd → Option (Int32 × Wd)} {out : Int32 × Wd} (hq10 : RW N len q10 4) (hk_kx709 : ∀ (cells slots : Nat) (y9 : Int32) (v : Wd), cells + (0 + rp1) ≤ 1 → slots + (0 + rp2) ≤ 4 → kx709 y9 v = some out → VJ p l e rmL_isSo s m args below meth c (MQ below (QZi D N0 ad0 (cellL cI cL cS aC len0) out.1 out.2 s.heap.size) args s 1 4 (AF N0 ad0 s.heap.size)) 20 D cI cL cS aC N0 ad0 N ad len cells slots v 709 [(0, .ref (ad 472)), (1, .ref (ad 490)), (2, .ref (ad 491)), (3, .ref (ad 492)), (4, .ref (ad 493)), (5, .ref (ad 494)), (6, .ref (ad 495)), (7, .ref (ad 496)), (8, .int x8), (9, .int y9), (10, .ref (ad q10)), (11, .int x11), (12, .int x12)] []) : ∀ (n : Nat) (cells slots : Nat) (x9 : Int32) (x16 : Int32) (w : Wd), cells + (n * 0 + (0 + rp1)) ≤ 1 → slots + (n * 0 + (0 + rp2)) ≤ 4 → m_L_isSo_L566 N q10 x8 x11 x12 kx709 n x9 x16 w = some out → VJ p l e rmL_isSo s m args below meth c (MQ below (QZi D N0 ad0 (cellL cI cL cS aC len0) out.1 out.2 s.heap.size) args s 1 4 (AF N0 ad0 s.heap.size)) 20 D cI cL cS aC N0 ad0 N ad len cells slots w 566 [(0, .ref (ad 472)), (1, .ref (ad 490)), (2, .ref (ad 491)), (3, .ref (ad 492)), (4, .ref (ad 493)), (5, .ref (ad 494)), (6, .ref (ad 495)), (7, .ref (ad 496)), (8, .int x8), (9, .int x9), (10, .ref (ad q10)), (11, .int x11), (12, .int x12), (16, .int x16)] [] := by
  intro n
  induction n with
  | zero => intro cells slots x9 x16 w hB1 hB2 hf; exact f_n hf
  | succ n ih =>
    intro cells slots x9 x16 w hB1 hB2 hf
    rw [m_L_isSo_L566] at hf
    have hN := hL.1
    refine v_iload X 13 dL_isSo_566 rfl ?_
    refine v_iconst X (v := (nI 2)) (by decide) dL_isSo_568 ?_
    refine v_icmp_ge (tgt := 709) X dL_isSo_569 (by decide) (fun c => ?_) (fun c => ?_)
    · replace hf := f_t c hf
      refine v_sub [0, 1, 2, 3, 4, 5, 6, 7, 8, 9, 10, 11, 12] rfl ?_
      exact hk_kx709 _ _ _ _ (by omega) (by omega) hf
    replace hf := f_f c hf
    refine v_iload X 12 dL_isSo_572 rfl ?_
    refine v_if_le (tgt := 709) X dL_isSo_574 (by decide) (fun c => ?_) (fun c => ?_)
    · replace hf := f_t c hf
      refine v_sub [0, 1, 2, 3, 4, 5, 6, 7, 8, 9, 10, 11, 12] rfl ?_
      exact hk_kx709 _ _ _ _ (by omega) (by omega) hf
    replace hf := f_f c hf
    refine v_iload X 9 dL_isSo_577 rfl ?_
    refine v_if_eq (tgt := 709) X dL_isSo_579 (by decide) (fun c => ?_) (fun c => ?_)
    · replace hf := f_t c hf
      refine v_sub [0, 1, 2, 3, 4, 5, 6, 7, 8, 9, 10, 11, 12] rfl ?_
      exact hk_kx709 _ _ _ _ (by omega) (by omega) hf
    replace hf := f_f c hf
    refine v_iload X 13 dL_isSo_582 rfl ?_
    refine v_if_ne (tgt := 592) X dL_isSo_584 (by decide) (fun c => ?_) (fun c => ?_)
    · replace hf := f_t c hf
      refine v_aload X 5 dL_isSo_592 rfl ?_
      refine v_sub [0, 1, 2, 3, 4, 5, 6, 7, 8, 10, 11, 12, 13] rfl ?_
      exact t_L_isSo_j594 (rk1 := (n * 0 + (0 + rp1))) (rk2 := (n * 0 + (0 + rp2))) (rp1 := rp1) (rp2 := rp2) X Y hL hq10 (lk4 hL) (by omega) (by omega) (by omega) (by omega) hf ih hk_kx709
    replace hf := f_fn c hf
    refine v_aload X 4 dL_isSo_587 rfl ?_
    refine v_goto (tgt := 594) X dL_isSo_589 (by decide) ?_
    refine v_sub [0, 1, 2, 3, 4, 5, 6, 7, 8, 10, 11, 12, 13] rfl ?_
    exact t_L_isSo_j594 (rk1 := (n * 0 + (0 + rp1))) (rk2 := (n * 0 + (0 + rp2))) (rp1 := rp1) (rp2 := rp2) X Y hL hq10 (lk3 hL) (by omega) (by omega) (by omega) (by omega) hf ih hk_kx709
set_option maxRecDepth 100000 in
set_option maxHeartbeats 4000000 in
theorem t_L_isSo_j709 {rk1 rk2 : Nat} (X : VX p s m args c cL_isSo 20 RL wsL_isSo D cI cL cS aC N0 ad0 len0 N ad len) (Y : RX meth (some .boolean)) (hL : LK N len) {q10 : Nat} {x8 : Int32} {x9 : Int32} {x11 : Int32} {x12 : Int32} {w : Wd} {kc : Int32 → Int32 → Int32 → Wd → Option (Int32 × Wd)} {kx715 : Int32 → Int32 → Wd → Option (Int32 × Wd)} {out : Int32 × Wd} (hq10 : RW N len q10 4) (hB1 : cells + (0 + rk1) ≤ 1) (hB2 : slots + (0 + rk2) ≤ 4) (hX1 : 0 ≤ rk1) (hX2 : 0 ≤ rk2) (hf : m_L_isSo_j709 N q10 x8 x9 x11 x12 w kc kx715 = some out) (hk_kc : ∀ (cells slots : Nat) (y9 : Int32) (y11 : Int32) (y12 : Int32) (v : Wd), cells + rk1 ≤ 1 → slots + rk2 ≤ 4 → kc y9 y11 y12 v = some out → VJ p l e rmL_isSo s m args below meth c (MQ below (QZi D N0 ad0 (cellL cI cL cS aC len0) out.1 out.2 s.heap.size) args s 1 4 (AF N0 ad0 s.heap.size)) 20 D cI cL cS aC N0 ad0 N ad len cells slots v 129 [(0, .ref (ad 472)), (1, .ref (ad 490)), (2, .ref (ad 491)), (3, .ref (ad 492)), (4, .ref (ad 493)), (5, .ref (ad 494)), (6, .ref (ad 495)), (7, .ref (ad 496)), (8, .int x8), (9, .int y9), (10, .ref (ad q10)), (11, .int y11), (12, .int y12)] []) (hk_kx715 : ∀ (cells slots : Nat) (y9 : Int32) (y11 : Int32) (v : Wd), cells + 0 ≤ 1 → slots + 0 ≤ 4 → kx715 y9 y11 v = some out → VJ p l e rmL_isSo s m args below meth c (MQ below (QZi D N0 ad0 (cellL cI cL cS aC len0) out.1 out.2 s.heap.size) args s 1 4 (AF N0 ad0 s.heap.size)) 20 D cI cL cS aC N0 ad0 N ad len cells slots v 715 [(0, .ref (ad 472)), (9, .int y9), (11, .int y11)] []) : VJ p l e rmL_isSo s m args below meth c (MQ below (QZi D N0 ad0 (cellL cI cL cS aC len0) out.1 out.2 s.heap.size) args s 1 4 (AF N0 ad0 s.heap.size)) 20 D cI cL cS aC N0 ad0 N ad len cells slots w 709 [(0, .ref (ad 472)), (1, .ref (ad 490)), (2, .ref (ad 491)), (3, .ref (ad 492)), (4, .ref (ad 493)), (5, .ref (ad 494)), (6, .ref (ad 495)), (7, .ref (ad 496)), (8, .int x8), (9, .int x9), (10, .ref (ad q10)), (11, .int x11), (12, .int x12)] [] := by
  unfold m_L_isSo_j709 at hf
  have hN := hL.1
  refine v_iinc (v := (x12 + (nI 1))) (lv' := [(0, .ref (ad 472)), (1, .ref (ad 490)), (2, .ref (ad 491)), (3, .ref (ad 492)), (4, .ref (ad 493)), (5, .ref (ad 494)), (6, .ref (ad 495)), (7, .ref (ad 496)), (8, .int x8), (9, .int x9), (10, .ref (ad q10)), (11, .int x11), (12, .int (x12 + (nI 1)))]) X 12 dL_isSo_709 rfl rfl (by decide) rfl ?_
  refine v_goto (tgt := 129) X dL_isSo_712 (by decide) ?_
  exact hk_kc _ _ _ _ _ _ (by omega) (by omega) hf
set_option maxRecDepth 100000 in
set_option maxHeartbeats 4000000 in
theorem t_L_isSo_j563 {rk1 rk2 : Nat} (X : VX p s m args c cL_isSo 20 RL wsL_isSo D cI cL cS aC N0 ad0 len0 N ad len) (Y : RX meth (some .boolean)) (hL : LK N len) {q10 : Nat} {x8 : Int32} {x9 : Int32} {x11 : Int32} {x12 : Int32} {w : Wd} {kc : Int32 → Int32 → Int32 → Wd → Option (Int32 × Wd)} {kx715 : Int32 → Int32 → Wd → Option (Int32 × Wd)} {out : Int32 × Wd} (hq10 : RW N len q10 4) (hB1 : cells + (0 + rk1) ≤ 1) (hB2 : slots + (0 + rk2) ≤ 4) (hX1 : 0 ≤ rk1) (hX2 : 0 ≤ rk2) (hf : m_L_isSo_j563 N q10 x8 x9 x11 x12 w kc kx715 = some out) (hk_kc : ∀ (cells slots : Nat) (y9 : Int32) (y11 : Int32) (y12 : Int32) (v : Wd), cells + rk1 ≤ 1 → slots + rk2 ≤ 4 → kc y9 y11 y12 v = some out → VJ p l e rmL_isSo s m args below meth c (MQ below (QZi D N0 ad0 (cellL cI cL cS aC len0) out.1 out.2 s.heap.size) args s 1 4 (AF N0 ad0 s.heap.size)) 20 D cI cL cS aC N0 ad0 N ad len cells slots v 129 [(0, .ref (ad 472)), (1, .ref (ad 490)), (2, .ref (ad 491)), (3, .ref (ad 492)), (4, .ref (ad 493)), (5, .ref (ad 494)), (6, .ref (ad 495)), (7, .ref (ad 496)), (8, .int x8), (9, .int y9), (10, .ref (ad q10)), (11, .int y11), (12, .int y12)] []) (hk_kx715 : ∀ (cells slots : Nat) (y9 : Int32) (y11 : Int32) (v : Wd), cells + 0 ≤ 1 → slots + 0 ≤ 4 → kx715 y9 y11 v = some out → VJ p l e rmL_isSo s m args below meth c (MQ below (QZi D N0 ad0 (cellL cI cL cS aC len0) out.1 out.2 s.heap.size) args s 1 4 (AF N0 ad0 s.heap.size)) 20 D cI cL cS aC N0 ad0 N ad len cells slots v 715 [(0, .ref (ad 472)), (9, .int y9), (11, .int y11)] []) : VJ p l e rmL_isSo s m args below meth c (MQ below (QZi D N0 ad0 (cellL cI cL cS aC len0) out.1 out.2 s.heap.size) args s 1 4 (AF N0 ad0 s.heap.size)) 20 D cI cL cS aC N0 ad0 N ad len cells slots w 563 [(0, .ref (ad 472)), (1, .ref (ad 490)), (2, .ref (ad 491)), (3, .ref (ad 492)), (4, .ref (ad 493)), (5, .ref (ad 494)), (6, .ref (ad 495)), (7, .ref (ad 496)), (8, .int x8), (9, .int x9), (10, .ref (ad q10)), (11, .int x11), (12, .int x12)] [] := by
  unfold m_L_isSo_j563 at hf
  have hN := hL.1
  refine v_iconst X (v := (nI 0)) (by decide) dL_isSo_563 ?_
  refine v_istore (lv' := [(0, .ref (ad 472)), (1, .ref (ad 490)), (2, .ref (ad 491)), (3, .ref (ad 492)), (4, .ref (ad 493)), (5, .ref (ad 494)), (6, .ref (ad 495)), (7, .ref (ad 496)), (8, .int x8), (9, .int x9), (10, .ref (ad q10)), (11, .int x11), (12, .int x12), (16, .int (nI 0))]) X dL_isSo_564 (by decide) rfl ?_
  refine t_L_isSo_L566 (rp1 := rk1) (rp2 := rk2) X Y hL hq10 ?_ _ _ _ _ _ _ ?_ ?_ hf
  · intro cells slots x9_1 w2 hB1 hB2 hf
    exact t_L_isSo_j709 (rk1 := rk1) (rk2 := rk2) X Y hL hq10 (by omega) (by omega) (by omega) (by omega) hf hk_kc hk_kx715
  · have hFU : FU * 0 = 0 := rfl; omega
  · have hFU : FU * 0 = 0 := rfl; omega
set_option maxRecDepth 100000 in
set_option maxHeartbeats 4000000 in
theorem t_L_isSo_j449 {rk1 rk2 : Nat} (X : VX p s m args c cL_isSo 20 RL wsL_isSo D cI cL cS aC N0 ad0 len0 N ad len) (Y : RX meth (some .boolean)) (hL : LK N len) {q10 : Nat} {x8 : Int32} {x11 : Int32} {x12 : Int32} {x15 : Int32} {s0 : Int32} {w : Wd} {kc : Int32 → Int32 → Int32 → Wd → Option (Int32 × Wd)} {kx715 : Int32 → Int32 → Wd → Option (Int32 × Wd)} {out : Int32 × Wd} (hq10 : RW N len q10 4) (hB1 : cells + (0 + rk1) ≤ 1) (hB2 : slots + (0 + rk2) ≤ 4) (hX1 : 0 ≤ rk1) (hX2 : 0 ≤ rk2) (hf : m_L_isSo_j449 N q10 x8 x11 x12 x15 s0 w kc kx715 = some out) (hk_kc : ∀ (cells slots : Nat) (y9 : Int32) (y11 : Int32) (y12 : Int32) (v : Wd), cells + rk1 ≤ 1 → slots + rk2 ≤ 4 → kc y9 y11 y12 v = some out → VJ p l e rmL_isSo s m args below meth c (MQ below (QZi D N0 ad0 (cellL cI cL cS aC len0) out.1 out.2 s.heap.size) args s 1 4 (AF N0 ad0 s.heap.size)) 20 D cI cL cS aC N0 ad0 N ad len cells slots v 129 [(0, .ref (ad 472)), (1, .ref (ad 490)), (2, .ref (ad 491)), (3, .ref (ad 492)), (4, .ref (ad 493)), (5, .ref (ad 494)), (6, .ref (ad 495)), (7, .ref (ad 496)), (8, .int x8), (9, .int y9), (10, .ref (ad q10)), (11, .int y11), (12, .int y12)] []) (hk_kx715 : ∀ (cells slots : Nat) (y9 : Int32) (y11 : Int32) (v : Wd), cells + 0 ≤ 1 → slots + 0 ≤ 4 → kx715 y9 y11 v = some out → VJ p l e rmL_isSo s m args below meth c (MQ below (QZi D N0 ad0 (cellL cI cL cS aC len0) out.1 out.2 s.heap.size) args s 1 4 (AF N0 ad0 s.heap.size)) 20 D cI cL cS aC N0 ad0 N ad len cells slots v 715 [(0, .ref (ad 472)), (9, .int y9), (11, .int y11)] []) : VJ p l e rmL_isSo s m args below meth c (MQ below (QZi D N0 ad0 (cellL cI cL cS aC len0) out.1 out.2 s.heap.size) args s 1 4 (AF N0 ad0 s.heap.size)) 20 D cI cL cS aC N0 ad0 N ad len cells slots w 449 [(0, .ref (ad 472)), (1, .ref (ad 490)), (2, .ref (ad 491)), (3, .ref (ad 492)), (4, .ref (ad 493)), (5, .ref (ad 494)), (6, .ref (ad 495)), (7, .ref (ad 496)), (8, .int x8), (10, .ref (ad q10)), (11, .int x11), (12, .int x12), (15, .int x15)] [.int s0] := by
  unfold m_L_isSo_j449 at hf
  have hN := hL.1
  refine v_istore (lv' := [(0, .ref (ad 472)), (1, .ref (ad 490)), (2, .ref (ad 491)), (3, .ref (ad 492)), (4, .ref (ad 493)), (5, .ref (ad 494)), (6, .ref (ad 495)), (7, .ref (ad 496)), (8, .int x8), (9, .int s0), (10, .ref (ad q10)), (11, .int x11), (12, .int x12), (15, .int x15)]) X dL_isSo_449 (by decide) rfl ?_
  refine v_iconst X (v := (nI 0)) (by decide) dL_isSo_451 ?_
  refine v_istore (lv' := [(0, .ref (ad 472)), (1, .ref (ad 490)), (2, .ref (ad 491)), (3, .ref (ad 492)), (4, .ref (ad 493)), (5, .ref (ad 494)), (6, .ref (ad 495)), (7, .ref (ad 496)), (8, .int x8), (9, .int s0), (10, .ref (ad q10)), (11, .int x11), (12, .int x12), (15, .int x15), (16, .int (nI 0))]) X dL_isSo_452 (by decide) rfl ?_
  refine t_L_isSo_L454 (rp1 := rk1) (rp2 := rk2) X Y hL hq10 ?_ _ _ _ _ _ _ ?_ ?_ hf
  · intro cells slots x9_1 w2 hB1 hB2 hf
    exact t_L_isSo_j563 (rk1 := rk1) (rk2 := rk2) X Y hL hq10 (by omega) (by omega) (by omega) (by omega) hf hk_kc hk_kx715
  · have hFU : FU * 0 = 0 := rfl; omega
  · have hFU : FU * 0 = 0 := rfl; omega
set_option maxRecDepth 100000 in
set_option maxHeartbeats 4000000 in
theorem t_L_isSo_j448 {rk1 rk2 : Nat} (X : VX p s m args c cL_isSo 20 RL wsL_isSo D cI cL cS aC N0 ad0 len0 N ad len) (Y : RX meth (some .boolean)) (hL : LK N len) {q10 : Nat} {x8 : Int32} {x11 : Int32} {x12 : Int32} {x15 : Int32} {w : Wd} {kc : Int32 → Int32 → Int32 → Wd → Option (Int32 × Wd)} {kx715 : Int32 → Int32 → Wd → Option (Int32 × Wd)} {out : Int32 × Wd} (hq10 : RW N len q10 4) (hB1 : cells + (0 + rk1) ≤ 1) (hB2 : slots + (0 + rk2) ≤ 4) (hX1 : 0 ≤ rk1) (hX2 : 0 ≤ rk2) (hf : m_L_isSo_j448 N q10 x8 x11 x12 x15 w kc kx715 = some out) (hk_kc : ∀ (cells slots : Nat) (y9 : Int32) (y11 : Int32) (y12 : Int32) (v : Wd), cells + rk1 ≤ 1 → slots + rk2 ≤ 4 → kc y9 y11 y12 v = some out → VJ p l e rmL_isSo s m args below meth c (MQ below (QZi D N0 ad0 (cellL cI cL cS aC len0) out.1 out.2 s.heap.size) args s 1 4 (AF N0 ad0 s.heap.size)) 20 D cI cL cS aC N0 ad0 N ad len cells slots v 129 [(0, .ref (ad 472)), (1, .ref (ad 490)), (2, .ref (ad 491)), (3, .ref (ad 492)), (4, .ref (ad 493)), (5, .ref (ad 494)), (6, .ref (ad 495)), (7, .ref (ad 496)), (8, .int x8), (9, .int y9), (10, .ref (ad q10)), (11, .int y11), (12, .int y12)] []) (hk_kx715 : ∀ (cells slots : Nat) (y9 : Int32) (y11 : Int32) (v : Wd), cells + 0 ≤ 1 → slots + 0 ≤ 4 → kx715 y9 y11 v = some out → VJ p l e rmL_isSo s m args below meth c (MQ below (QZi D N0 ad0 (cellL cI cL cS aC len0) out.1 out.2 s.heap.size) args s 1 4 (AF N0 ad0 s.heap.size)) 20 D cI cL cS aC N0 ad0 N ad len cells slots v 715 [(0, .ref (ad 472)), (9, .int y9), (11, .int y11)] []) : VJ p l e rmL_isSo s m args below meth c (MQ below (QZi D N0 ad0 (cellL cI cL cS aC len0) out.1 out.2 s.heap.size) args s 1 4 (AF N0 ad0 s.heap.size)) 20 D cI cL cS aC N0 ad0 N ad len cells slots w 448 [(0, .ref (ad 472)), (1, .ref (ad 490)), (2, .ref (ad 491)), (3, .ref (ad 492)), (4, .ref (ad 493)), (5, .ref (ad 494)), (6, .ref (ad 495)), (7, .ref (ad 496)), (8, .int x8), (10, .ref (ad q10)), (11, .int x11), (12, .int x12), (15, .int x15)] [] := by
  unfold m_L_isSo_j448 at hf
  have hN := hL.1
  refine v_iconst X (v := (nI 0)) (by decide) dL_isSo_448 ?_
  exact t_L_isSo_j449 (rk1 := rk1) (rk2 := rk2) X Y hL hq10 (by omega) (by omega) (by omega) (by omega) hf hk_kc hk_kx715
set_option maxRecDepth 100000 in
set_option maxHeartbeats 4000000 in
theorem t_L_isSo_j388 {rk1 rk2 : Nat} (X : VX p s m args c cL_isSo 20 RL wsL_isSo D cI cL cS aC N0 ad0 len0 N ad len) (Y : RX meth (some .boolean)) (hL : LK N len) {q10 : Nat} {x8 : Int32} {x9 : Int32} {x11 : Int32} {x12 : Int32} {x13 : Int32} {x14 : Int32} {s0 : Int32} {w : Wd} {kc : Int32 → Int32 → Int32 → Wd → Option (Int32 × Wd)} {kx715 : Int32 → Int32 → Wd → Option (Int32 × Wd)} {out : Int32 × Wd} (hq10 : RW N len q10 4) (hB1 : cells + (0 + rk1) ≤ 1) (hB2 : slots + (0 + rk2) ≤ 4) (hX1 : 0 ≤ rk1) (hX2 : 0 ≤ rk2) (hf : m_L_isSo_j388 N q10 x8 x9 x11 x12 x13 x14 s0 w kc kx715 = some out) (hk_kc : ∀ (cells slots : Nat) (y9 : Int32) (y11 : Int32) (y12 : Int32) (v : Wd), cells + rk1 ≤ 1 → slots + rk2 ≤ 4 → kc y9 y11 y12 v = some out → VJ p l e rmL_isSo s m args below meth c (MQ below (QZi D N0 ad0 (cellL cI cL cS aC len0) out.1 out.2 s.heap.size) args s 1 4 (AF N0 ad0 s.heap.size)) 20 D cI cL cS aC N0 ad0 N ad len cells slots v 129 [(0, .ref (ad 472)), (1, .ref (ad 490)), (2, .ref (ad 491)), (3, .ref (ad 492)), (4, .ref (ad 493)), (5, .ref (ad 494)), (6, .ref (ad 495)), (7, .ref (ad 496)), (8, .int x8), (9, .int y9), (10, .ref (ad q10)), (11, .int y11), (12, .int y12)] []) (hk_kx715 : ∀ (cells slots : Nat) (y9 : Int32) (y11 : Int32) (v : Wd), cells + 0 ≤ 1 → slots + 0 ≤ 4 → kx715 y9 y11 v = some out → VJ p l e rmL_isSo s m args below meth c (MQ below (QZi D N0 ad0 (cellL cI cL cS aC len0) out.1 out.2 s.heap.size) args s 1 4 (AF N0 ad0 s.heap.size)) 20 D cI cL cS aC N0 ad0 N ad len cells slots v 715 [(0, .ref (ad 472)), (9, .int y9), (11, .int y11)] []) : VJ p l e rmL_isSo s m args below meth c (MQ below (QZi D N0 ad0 (cellL cI cL cS aC len0) out.1 out.2 s.heap.size) args s 1 4 (AF N0 ad0 s.heap.size)) 20 D cI cL cS aC N0 ad0 N ad len cells slots w 388 [(0, .ref (ad 472)), (1, .ref (ad 490)), (2, .ref (ad 491)), (3, .ref (ad 492)), (4, .ref (ad 493)), (5, .ref (ad 494)), (6, .ref (ad 495)), (7, .ref (ad 496)), (8, .int x8), (9, .int x9), (10, .ref (ad q10)), (11, .int x11), (12, .int x12), (13, .int x13), (14, .int x14)] [.int s0] := by
  unfold m_L_isSo_j388 at hf
  have hN := hL.1
  refine v_istore (lv' := [(0, .ref (ad 472)), (1, .ref (ad 490)), (2, .ref (ad 491)), (3, .ref (ad 492)), (4, .ref (ad 493)), (5, .ref (ad 494)), (6, .ref (ad 495)), (7, .ref (ad 496)), (8, .int x8), (9, .int x9), (10, .ref (ad q10)), (11, .int x11), (12, .int x12), (13, .int x13), (14, .int x14), (15, .int s0)]) X dL_isSo_388 (by decide) rfl ?_
  refine v_iload X 9 dL_isSo_390 rfl ?_
  refine v_if_eq (tgt := 448) X dL_isSo_392 (by decide) (fun c => ?_) (fun c => ?_)
  · replace hf := f_t c hf
    refine v_sub [0, 1, 2, 3, 4, 5, 6, 7, 8, 10, 11, 12, 15] rfl ?_
    exact t_L_isSo_j448 (rk1 := rk1) (rk2 := rk2) X Y hL hq10 (by omega) (by omega) (by omega) (by omega) hf hk_kc hk_kx715
  replace hf := f_f c hf
  refine v_aload_n X 0 dL_isSo_395 rfl rfl ?_
  refine v_iload X 12 dL_isSo_396 rfl ?_
  refine v_iconst X (v := (nI 3)) (by decide) dL_isSo_398 ?_
  obtain ⟨o1, ho1, hf⟩ := f_bd hf
  obtain ⟨w2, ew2, hf⟩ := f_lt hf
  refine v_callCi X hL.n490 [.int x12, .int (nI 3)] (c_X7_proxy X.inC ho1) (cwV 2 X.2.2.2.2.1 gL_isSo_X7_proxy rfl rfl rfl (by decide +kernel) ⟨Nat.le_of_ble_eq_true rfl, Nat.le_of_ble_eq_true rfl⟩) rfl rfl (Nat.le_of_ble_eq_true rfl) ⟨by show _ ≤ 1; omega, by show _ ≤ 4; omega⟩ dL_isSo_399 ew2 ?_
  refine v_iload X 14 dL_isSo_402 rfl ?_
  refine v_icmp_ne (tgt := 448) X dL_isSo_404 (by decide) (fun c => ?_) (fun c => ?_)
  · replace hf := f_t c hf
    refine v_sub [0, 1, 2, 3, 4, 5, 6, 7, 8, 10, 11, 12, 15] rfl ?_
    exact t_L_isSo_j448 (rk1 := rk1) (rk2 := rk2) X Y hL hq10 (by omega) (by omega) (by omega) (by omega) hf hk_kc hk_kx715
  replace hf := f_fn c hf
  refine v_aload_n X 0 dL_isSo_407 rfl rfl ?_
  refine v_iload X 12 dL_isSo_408 rfl ?_
  refine v_iconst X (v := (nI 4)) (by decide) dL_isSo_410 ?_
  obtain ⟨o3, ho3, hf⟩ := f_bd hf
  obtain ⟨w4, ew4, hf⟩ := f_lt hf
  refine v_callCi X hL.n490 [.int x12, .int (nI 4)] (c_X7_proxy X.inC ho3) (cwV 2 X.2.2.2.2.1 gL_isSo_X7_proxy rfl rfl rfl (by decide +kernel) ⟨Nat.le_of_ble_eq_true rfl, Nat.le_of_ble_eq_true rfl⟩) rfl rfl (Nat.le_of_ble_eq_true rfl) ⟨by show _ ≤ 1; omega, by show _ ≤ 4; omega⟩ dL_isSo_411 ew4 ?_
  refine v_iload X 13 dL_isSo_414 rfl ?_
  refine v_icmp_ne (tgt := 448) X dL_isSo_416 (by decide) (fun c => ?_) (fun c => ?_)
  · replace hf := f_t c hf
    refine v_sub [0, 1, 2, 3, 4, 5, 6, 7, 8, 10, 11, 12, 15] rfl ?_
    exact t_L_isSo_j448 (rk1 := rk1) (rk2 := rk2) X Y hL hq10 (by omega) (by omega) (by omega) (by omega) hf hk_kc hk_kx715
  replace hf := f_fn c hf
  refine v_aload_n X 0 dL_isSo_419 rfl rfl ?_
  refine v_iload X 12 dL_isSo_420 rfl ?_
  refine v_iconst X (v := (nI 5)) (by decide) dL_isSo_422 ?_
  obtain ⟨o5, ho5, hf⟩ := f_bd hf
  obtain ⟨w6, ew6, hf⟩ := f_lt hf
  refine v_callCi X hL.n490 [.int x12, .int (nI 5)] (c_X7_proxy X.inC ho5) (cwV 2 X.2.2.2.2.1 gL_isSo_X7_proxy rfl rfl rfl (by decide +kernel) ⟨Nat.le_of_ble_eq_true rfl, Nat.le_of_ble_eq_true rfl⟩) rfl rfl (Nat.le_of_ble_eq_true rfl) ⟨by show _ ≤ 1; omega, by show _ ≤ 4; omega⟩ dL_isSo_423 ew6 ?_
  refine v_iload X 15 dL_isSo_426 rfl ?_
  refine v_icmp_ne (tgt := 448) X dL_isSo_428 (by decide) (fun c => ?_) (fun c => ?_)
  · replace hf := f_t c hf
    refine v_sub [0, 1, 2, 3, 4, 5, 6, 7, 8, 10, 11, 12, 15] rfl ?_
    exact t_L_isSo_j448 (rk1 := rk1) (rk2 := rk2) X Y hL hq10 (by omega) (by omega) (by omega) (by omega) hf hk_kc hk_kx715
  replace hf := f_fn c hf
  refine v_aload_n X 0 dL_isSo_431 rfl rfl ?_
  refine v_iload X 12 dL_isSo_432 rfl ?_
  refine v_iload X 15 dL_isSo_434 rfl ?_
  obtain ⟨o7, ho7, hf⟩ := f_bd hf
  refine v_callCi X hL.n490 [.int x12, .int s0] (c_X7_kept X.inC ho7) (cwV 2 X.2.2.2.2.1 gL_isSo_X7_kept rfl rfl rfl (by decide +kernel) ⟨Nat.le_of_ble_eq_true rfl, Nat.le_of_ble_eq_true rfl⟩) rfl rfl (Nat.le_of_ble_eq_true rfl) ⟨by show _ ≤ 1; omega, by show _ ≤ 4; omega⟩ dL_isSo_436 wj_self.symm ?_
  refine v_bipush X (v := (-9 : Int32)) (by decide) dL_isSo_439 ?_
  refine v_icmp_ne (tgt := 448) X dL_isSo_441 (by decide) (fun c => ?_) (fun c => ?_)
  · replace hf := f_t c hf
    refine v_sub [0, 1, 2, 3, 4, 5, 6, 7, 8, 10, 11, 12, 15] rfl ?_
    exact t_L_isSo_j448 (rk1 := rk1) (rk2 := rk2) X Y hL hq10 (by omega) (by omega) (by omega) (by omega) hf hk_kc hk_kx715
  replace hf := f_fn c hf
  refine v_iconst X (v := (nI 1)) (by decide) dL_isSo_444 ?_
  refine v_goto (tgt := 449) X dL_isSo_445 (by decide) ?_
  refine v_sub [0, 1, 2, 3, 4, 5, 6, 7, 8, 10, 11, 12, 15] rfl ?_
  exact t_L_isSo_j449 (rk1 := rk1) (rk2 := rk2) X Y hL hq10 (by omega) (by omega) (by omega) (by omega) hf hk_kc hk_kx715
set_option maxRecDepth 100000 in
set_option maxHeartbeats 4000000 in
theorem t_L_isSo_j363 {rk1 rk2 : Nat} (X : VX p s m args c cL_isSo 20 RL wsL_isSo D cI cL cS aC N0 ad0 len0 N ad len) (Y : RX meth (some .boolean)) (hL : LK N len) {q10 : Nat} {x8 : Int32} {x9 : Int32} {x12 : Int32} {x13 : Int32} {x14 : Int32} {s0 : Int32} {s1 : Int32} {w : Wd} {kc : Int32 → Int32 → Int32 → Wd → Option (Int32 × Wd)} {kx715 : Int32 → Int32 → Wd → Option (Int32 × Wd)} {out : Int32 × Wd} (hq10 : RW N len q10 4) (hB1 : cells + (0 + rk1) ≤ 1) (hB2 : slots + (0 + rk2) ≤ 4) (hX1 : 0 ≤ rk1) (hX2 : 0 ≤ rk2) (hf : m_L_isSo_j363 N q10 x8 x9 x12 x13 x14 s0 s1 w kc kx715 = some out) (hk_kc : ∀ (cells slots : Nat) (y9 : Int32) (y11 : Int32) (y12 : Int32) (v : Wd), cells + rk1 ≤ 1 → slots + rk2 ≤ 4 → kc y9 y11 y12 v = some out → VJ p l e rmL_isSo s m args below meth c (MQ below (QZi D N0 ad0 (cellL cI cL cS aC len0) out.1 out.2 s.heap.size) args s 1 4 (AF N0 ad0 s.heap.size)) 20 D cI cL cS aC N0 ad0 N ad len cells slots v 129 [(0, .ref (ad 472)), (1, .ref (ad 490)), (2, .ref (ad 491)), (3, .ref (ad 492)), (4, .ref (ad 493)), (5, .ref (ad 494)), (6, .ref (ad 495)), (7, .ref (ad 496)), (8, .int x8), (9, .int y9), (10, .ref (ad q10)), (11, .int y11), (12, .int y12)] []) (hk_kx715 : ∀ (cells slots : Nat) (y9 : Int32) (y11 : Int32) (v : Wd), cells + 0 ≤ 1 → slots + 0 ≤ 4 → kx715 y9 y11 v = some out → VJ p l e rmL_isSo s m args below meth c (MQ below (QZi D N0 ad0 (cellL cI cL cS aC len0) out.1 out.2 s.heap.size) args s 1 4 (AF N0 ad0 s.heap.size)) 20 D cI cL cS aC N0 ad0 N ad len cells slots v 715 [(0, .ref (ad 472)), (9, .int y9), (11, .int y11)] []) : VJ p l e rmL_isSo s m args below meth c (MQ below (QZi D N0 ad0 (cellL cI cL cS aC len0) out.1 out.2 s.heap.size) args s 1 4 (AF N0 ad0 s.heap.size)) 20 D cI cL cS aC N0 ad0 N ad len cells slots w 363 [(0, .ref (ad 472)), (1, .ref (ad 490)), (2, .ref (ad 491)), (3, .ref (ad 492)), (4, .ref (ad 493)), (5, .ref (ad 494)), (6, .ref (ad 495)), (7, .ref (ad 496)), (8, .int x8), (9, .int x9), (10, .ref (ad q10)), (12, .int x12), (13, .int x13), (14, .int x14)] [.int s1, .int s0] := by
  unfold m_L_isSo_j363 at hf
  have hN := hL.1
  refine v_iadd X dL_isSo_363 ?_
  obtain ⟨x11_1, ex11_1, hf⟩ := f_lt hf
  refine v_top ex11_1 ?_
  refine v_istore (lv' := [(0, .ref (ad 472)), (1, .ref (ad 490)), (2, .ref (ad 491)), (3, .ref (ad 492)), (4, .ref (ad 493)), (5, .ref (ad 494)), (6, .ref (ad 495)), (7, .ref (ad 496)), (8, .int x8), (9, .int x9), (10, .ref (ad q10)), (11, .int x11_1), (12, .int x12), (13, .int x13), (14, .int x14)]) X dL_isSo_364 (by decide) rfl ?_
  refine v_iload X 12 dL_isSo_366 rfl ?_
  refine v_if_ne (tgt := 378) X dL_isSo_368 (by decide) (fun c => ?_) (fun c => ?_)
  · replace hf := f_t c hf
    refine v_aload X 6 dL_isSo_378 rfl ?_
    refine v_bipush X (v := (nI 13)) (by decide) dL_isSo_380 ?_
    refine v_iload X 12 dL_isSo_382 rfl ?_
    refine v_iconst X (v := (nI 1)) (by decide) dL_isSo_384 ?_
    refine v_isub X dL_isSo_385 ?_
    refine v_imul X dL_isSo_386 ?_
    obtain ⟨hi2, hf⟩ := f_c hf
    refine v_iald X (lk5 hL) hi2 dL_isSo_387 ?_
    exact t_L_isSo_j388 (rk1 := rk1) (rk2 := rk2) X Y hL hq10 (by omega) (by omega) (by omega) (by omega) hf hk_kc hk_kx715
  replace hf := f_fn c hf
  refine v_aload X 7 dL_isSo_371 rfl ?_
  refine v_iconst X (v := (nI 0)) (by decide) dL_isSo_373 ?_
  obtain ⟨hi3, hf⟩ := f_c hf
  refine v_iald X (lk6 hL) hi3 dL_isSo_374 ?_
  refine v_goto (tgt := 388) X dL_isSo_375 (by decide) ?_
  exact t_L_isSo_j388 (rk1 := rk1) (rk2 := rk2) X Y hL hq10 (by omega) (by omega) (by omega) (by omega) hf hk_kc hk_kx715
set_option maxRecDepth 100000 in
set_option maxHeartbeats 4000000 in
theorem t_L_isSo_j349 {rk1 rk2 : Nat} (X : VX p s m args c cL_isSo 20 RL wsL_isSo D cI cL cS aC N0 ad0 len0 N ad len) (Y : RX meth (some .boolean)) (hL : LK N len) {q10 : Nat} {x8 : Int32} {x9 : Int32} {x11 : Int32} {x12 : Int32} {x13 : Int32} {x14 : Int32} {w : Wd} {kc : Int32 → Int32 → Int32 → Wd → Option (Int32 × Wd)} {kx715 : Int32 → Int32 → Wd → Option (Int32 × Wd)} {out : Int32 × Wd} (hq10 : RW N len q10 4) (hB1 : cells + (0 + rk1) ≤ 1) (hB2 : slots + (0 + rk2) ≤ 4) (hX1 : 0 ≤ rk1) (hX2 : 0 ≤ rk2) (hf : m_L_isSo_j349 N q10 x8 x9 x11 x12 x13 x14 w kc kx715 = some out) (hk_kc : ∀ (cells slots : Nat) (y9 : Int32) (y11 : Int32) (y12 : Int32) (v : Wd), cells + rk1 ≤ 1 → slots + rk2 ≤ 4 → kc y9 y11 y12 v = some out → VJ p l e rmL_isSo s m args below meth c (MQ below (QZi D N0 ad0 (cellL cI cL cS aC len0) out.1 out.2 s.heap.size) args s 1 4 (AF N0 ad0 s.heap.size)) 20 D cI cL cS aC N0 ad0 N ad len cells slots v 129 [(0, .ref (ad 472)), (1, .ref (ad 490)), (2, .ref (ad 491)), (3, .ref (ad 492)), (4, .ref (ad 493)), (5, .ref (ad 494)), (6, .ref (ad 495)), (7, .ref (ad 496)), (8, .int x8), (9, .int y9), (10, .ref (ad q10)), (11, .int y11), (12, .int y12)] []) (hk_kx715 : ∀ (cells slots : Nat) (y9 : Int32) (y11 : Int32) (v : Wd), cells + 0 ≤ 1 → slots + 0 ≤ 4 → kx715 y9 y11 v = some out → VJ p l e rmL_isSo s m args below meth c (MQ below (QZi D N0 ad0 (cellL cI cL cS aC len0) out.1 out.2 s.heap.size) args s 1 4 (AF N0 ad0 s.heap.size)) 20 D cI cL cS aC N0 ad0 N ad len cells slots v 715 [(0, .ref (ad 472)), (9, .int y9), (11, .int y11)] []) : VJ p l e rmL_isSo s m args below meth c (MQ below (QZi D N0 ad0 (cellL cI cL cS aC len0) out.1 out.2 s.heap.size) args s 1 4 (AF N0 ad0 s.heap.size)) 20 D cI cL cS aC N0 ad0 N ad len cells slots w 349 [(0, .ref (ad 472)), (1, .ref (ad 490)), (2, .ref (ad 491)), (3, .ref (ad 492)), (4, .ref (ad 493)), (5, .ref (ad 494)), (6, .ref (ad 495)), (7, .ref (ad 496)), (8, .int x8), (9, .int x9), (10, .ref (ad q10)), (11, .int x11), (12, .int x12), (13, .int x13), (14, .int x14)] [] := by
  unfold m_L_isSo_j349 at hf
  have hN := hL.1
  refine v_iload X 11 dL_isSo_349 rfl ?_
  refine v_iload X 13 dL_isSo_351 rfl ?_
  refine v_iload X 8 dL_isSo_353 rfl ?_
  refine v_icmp_ne (tgt := 362) X dL_isSo_355 (by decide) (fun c => ?_) (fun c => ?_)
  · replace hf := f_t c hf
    refine v_iconst X (v := (nI 0)) (by decide) dL_isSo_362 ?_
    refine v_sub [0, 1, 2, 3, 4, 5, 6, 7, 8, 9, 10, 12, 13, 14] rfl ?_
    exact t_L_isSo_j363 (rk1 := rk1) (rk2 := rk2) X Y hL hq10 (by omega) (by omega) (by omega) (by omega) hf hk_kc hk_kx715
  replace hf := f_fn c hf
  refine v_iconst X (v := (nI 1)) (by decide) dL_isSo_358 ?_
  refine v_goto (tgt := 363) X dL_isSo_359 (by decide) ?_
  refine v_sub [0, 1, 2, 3, 4, 5, 6, 7, 8, 9, 10, 12, 13, 14] rfl ?_
  exact t_L_isSo_j363 (rk1 := rk1) (rk2 := rk2) X Y hL hq10 (by omega) (by omega) (by omega) (by omega) hf hk_kc hk_kx715
set_option maxRecDepth 100000 in
set_option maxHeartbeats 4000000 in
theorem t_L_isSo_L129 (X : VX p s m args c cL_isSo 20 RL wsL_isSo D cI cL cS aC N0 ad0 len0 N ad len) (Y : RX meth (some .boolean)) (hL : LK N len) {q10 : Nat} {x8 : Int32} {kx715 : Int32 → Int32 → Wd → Option (Int32 × Wd)} {out : Int32 × Wd} (hq10 : RW N len q10 4) (hk_kx715 : ∀ (cells slots : Nat) (y9 : Int32) (y11 : Int32) (v : Wd), cells + 0 ≤ 1 → slots + 0 ≤ 4 → kx715 y9 y11 v = some out → VJ p l e rmL_isSo s m args below meth c (MQ below (QZi D N0 ad0 (cellL cI cL cS aC len0) out.1 out.2 s.heap.size) args s 1 4 (AF N0 ad0 s.heap.size)) 20 D cI cL cS aC N0 ad0 N ad len cells slots v 715 [(0, .ref (ad 472)), (9, .int y9), (11, .int y11)] []) : ∀ (n : Nat) (cells slots : Nat) (x9 : Int32) (x11 : Int32) (x12 : Int32) (w : Wd), cells + (n * 0 + 0) ≤ 1 → slots + (n * 0 + 0) ≤ 4 → m_L_isSo_L129 N q10 x8 kx715 n x9 x11 x12 w = some out → VJ p l e rmL_isSo s m args below meth c (MQ below (QZi D N0 ad0 (cellL cI cL cS aC len0) out.1 out.2 s.heap.size) args s 1 4 (AF N0 ad0 s.heap.size)) 20 D cI cL cS aC N0 ad0 N ad len cells slots w 129 [(0, .ref (ad 472)), (1, .ref (ad 490)), (2, .ref (ad 491)), (3, .ref (ad 492)), (4, .ref (ad 493)), (5, .ref (ad 494)), (6, .ref (ad 495)), (7, .ref (ad 496)), (8, .int x8), (9, .int x9), (10, .ref (ad q10)), (11, .int x11), (12, .int x12)] [] := by
  intro n
  induction n with
  | zero => intro cells slots x9 x11 x12 w hB1 hB2 hf; exact f_n hf
  | succ n ih =>
    intro cells slots x9 x11 x12 w hB1 hB2 hf
    rw [m_L_isSo_L129] at hf
    have hN := hL.1
    refine v_iload X 12 dL_isSo_129 rfl ?_
    refine v_aload_n X 1 dL_isSo_131 rfl rfl ?_
    refine v_iconst X (v := (nI 0)) (by decide) dL_isSo_132 ?_
    obtain ⟨hi1, hf⟩ := f_c hf
    refine v_iald X (lk0 hL) hi1 dL_isSo_133 ?_
    refine v_icmp_ge (tgt := 715) X dL_isSo_134 (by decide) (fun c => ?_) (fun c => ?_)
    · replace hf := f_t c hf
      refine v_sub [0, 9, 11] rfl ?_
      exact hk_kx715 _ _ _ _ _ (by omega) (by omega) hf
    replace hf := f_f c hf
    refine v_iload X 9 dL_isSo_137 rfl ?_
    refine v_if_eq (tgt := 715) X dL_isSo_139 (by decide) (fun c => ?_) (fun c => ?_)
    · replace hf := f_t c hf
      refine v_sub [0, 9, 11] rfl ?_
      exact hk_kx715 _ _ _ _ _ (by omega) (by omega) hf
    replace hf := f_f c hf
    refine v_aload_n X 2 dL_isSo_142 rfl rfl ?_
    refine v_aload_n X 3 dL_isSo_143 rfl rfl ?_
    refine v_iload X 12 dL_isSo_144 rfl ?_
    refine v_aload X 10 dL_isSo_146 rfl ?_
    obtain ⟨o2, ho2, hf⟩ := f_bd hf
    refine v_callSv X [.ref (ad 491), .ref (ad 492), .int x12, .ref (ad q10)] (c_L_serve X.inj (RW.i (lk1 hL)) (RW.i (lk2 hL)) (RW.i hq10) ho2) (va_cwS 4 X.2.2.2.2.1 gL_isSo_L_serve rfl rfl rfl (by decide +kernel) ⟨Nat.le_of_ble_eq_true rfl, Nat.le_of_ble_eq_true rfl⟩) rfl rfl (Nat.le_of_ble_eq_true rfl) ⟨by show _ ≤ 1; omega, by show _ ≤ 4; omega⟩ dL_isSo_148 ?_
    refine v_iconst X (v := (nI 0)) (by decide) dL_isSo_151 ?_
    refine v_istore (lv' := [(0, .ref (ad 472)), (1, .ref (ad 490)), (2, .ref (ad 491)), (3, .ref (ad 492)), (4, .ref (ad 493)), (5, .ref (ad 494)), (6, .ref (ad 495)), (7, .ref (ad 496)), (8, .int x8), (9, .int x9), (10, .ref (ad q10)), (11, .int x11), (12, .int x12), (13, .int (nI 0))]) X dL_isSo_152 (by decide) rfl ?_
    refine v_iconst X (v := (nI 0)) (by decide) dL_isSo_154 ?_
    refine v_istore (lv' := [(0, .ref (ad 472)), (1, .ref (ad 490)), (2, .ref (ad 491)), (3, .ref (ad 492)), (4, .ref (ad 493)), (5, .ref (ad 494)), (6, .ref (ad 495)), (7, .ref (ad 496)), (8, .int x8), (9, .int x9), (10, .ref (ad q10)), (11, .int x11), (12, .int x12), (13, .int (nI 0)), (14, .int (nI 0))]) X dL_isSo_155 (by decide) rfl ?_
    refine v_iconst X (v := (nI 0)) (by decide) dL_isSo_157 ?_
    refine v_istore (lv' := [(0, .ref (ad 472)), (1, .ref (ad 490)), (2, .ref (ad 491)), (3, .ref (ad 492)), (4, .ref (ad 493)), (5, .ref (ad 494)), (6, .ref (ad 495)), (7, .ref (ad 496)), (8, .int x8), (9, .int x9), (10, .ref (ad q10)), (11, .int x11), (12, .int x12), (13, .int (nI 0)), (14, .int (nI 0)), (15, .int (nI 0))]) X dL_isSo_158 (by decide) rfl ?_
    refine t_L_isSo_L160 (rp1 := (n * 0 + 0)) (rp2 := (n * 0 + 0)) X Y hL hq10 ?_ _ _ _ _ _ _ _ _ ?_ ?_ hf
    · intro cells slots x9_3 x13_4 x14_5 w6 hB1 hB2 hf
      exact t_L_isSo_j349 (rk1 := (n * 0 + 0)) (rk2 := (n * 0 + 0)) X Y hL hq10 (by omega) (by omega) (by omega) (by omega) hf ih hk_kx715
    · have hFU : FU * 0 = 0 := rfl; omega
    · have hFU : FU * 0 = 0 := rfl; omega
set_option maxRecDepth 100000 in
set_option maxHeartbeats 4000000 in
theorem t_L_isSo_j715 (X : VX p s m args c cL_isSo 20 RL wsL_isSo D cI cL cS aC N0 ad0 len0 N ad len) (Y : RX meth (some .boolean)) (hL : LK N len) {x9 : Int32} {x11 : Int32} {w : Wd} {out : Int32 × Wd} (hB1 : cells + 0 ≤ 1) (hB2 : slots + 0 ≤ 4) (hf : m_L_isSo_j715 N x9 x11 w = some out) : VJ p l e rmL_isSo s m args below meth c (MQ below (QZi D N0 ad0 (cellL cI cL cS aC len0) out.1 out.2 s.heap.size) args s 1 4 (AF N0 ad0 s.heap.size)) 20 D cI cL cS aC N0 ad0 N ad len cells slots w 715 [(0, .ref (ad 472)), (9, .int x9), (11, .int x11)] [] := by
  unfold m_L_isSo_j715 at hf
  have hN := hL.1
  refine v_iload X 1 dL_isSo_715 rfl ?_
  refine v_if_eq (tgt := 733) X dL_isSo_717 (by decide) (fun c => ?_) (fun c => ?_)
  · replace hf := f_t c hf
    refine v_iconst X (v := (nI 0)) (by decide) dL_isSo_733 ?_
    exact v_bret X Y (by omega) (by omega) (Eq.trans (by decide : (nI 0) &&& 1 = (nI 0)) (f_p1 hf)) (f_p2 hf) dL_isSo_734
  replace hf := f_f c hf
  refine v_aload_n X 0 dL_isSo_720 rfl rfl ?_
  obtain ⟨o1, ho1, hf⟩ := f_bd hf
  obtain ⟨w2, ew2, hf⟩ := f_lt hf
  refine v_callCi X hL.n490 [] (c_X7_upToDate X.inC ho1) (cwV 0 X.2.2.2.2.1 gL_isSo_X7_upToDate rfl rfl rfl (by decide +kernel) ⟨Nat.le_of_ble_eq_true rfl, Nat.le_of_ble_eq_true rfl⟩) rfl rfl (Nat.le_of_ble_eq_true rfl) ⟨by show _ ≤ 1; omega, by show _ ≤ 4; omega⟩ dL_isSo_721 ew2 ?_
  refine v_iload X 2 dL_isSo_724 rfl ?_
  refine v_icmp_ne (tgt := 733) X dL_isSo_726 (by decide) (fun c => ?_) (fun c => ?_)
  · replace hf := f_t c hf
    refine v_iconst X (v := (nI 0)) (by decide) dL_isSo_733 ?_
    exact v_bret X Y (by omega) (by omega) (Eq.trans (by decide : (nI 0) &&& 1 = (nI 0)) (f_p1 hf)) (f_p2 hf) dL_isSo_734
  replace hf := f_fn c hf
  refine v_iconst X (v := (nI 1)) (by decide) dL_isSo_729 ?_
  refine v_goto (tgt := 734) X dL_isSo_730 (by decide) ?_
  exact v_bret X Y (by omega) (by omega) (Eq.trans (by decide : (nI 1) &&& 1 = (nI 1)) (f_p1 hf)) (f_p2 hf) dL_isSo_734
set_option maxRecDepth 100000 in
set_option maxHeartbeats 4000000 in
theorem t_L_isSo_j116 (X : VX p s m args c cL_isSo 20 RL wsL_isSo D cI cL cS aC N0 ad0 len0 N ad len) (Y : RX meth (some .boolean)) (hL : LK N len) {x8 : Int32} {s0 : Int32} {w : Wd} {out : Int32 × Wd} (hB1 : cells + 1 ≤ 1) (hB2 : slots + 4 ≤ 4) (hf : m_L_isSo_j116 N x8 s0 w = some out) : VJ p l e rmL_isSo s m args below meth c (MQ below (QZi D N0 ad0 (cellL cI cL cS aC len0) out.1 out.2 s.heap.size) args s 1 4 (AF N0 ad0 s.heap.size)) 20 D cI cL cS aC N0 ad0 N ad len cells slots w 116 [(0, .ref (ad 472)), (1, .ref (ad 490)), (2, .ref (ad 491)), (3, .ref (ad 492)), (4, .ref (ad 493)), (5, .ref (ad 494)), (6, .ref (ad 495)), (7, .ref (ad 496)), (8, .int x8)] [.int s0] := by
  unfold m_L_isSo_j116 at hf
  have hN := hL.1
  refine v_istore (lv' := [(0, .ref (ad 472)), (1, .ref (ad 490)), (2, .ref (ad 491)), (3, .ref (ad 492)), (4, .ref (ad 493)), (5, .ref (ad 494)), (6, .ref (ad 495)), (7, .ref (ad 496)), (8, .int x8), (9, .int s0)]) X dL_isSo_116 (by decide) rfl ?_
  refine v_iconst X (v := (nI 4)) (by decide) dL_isSo_118 ?_
  obtain ⟨w1, ew1, hf⟩ := f_lt hf
  refine v_newi X (List.mem_of_getElem? (i := 1) rfl) (n := nI 4) (N' := 4) (by decide) rfl (Nat.le_of_ble_eq_true rfl) (by omega) (by show _ ≤ 1; omega) (by show _ ≤ 4; omega) dL_isSo_119 ew1 (fun ad X ha => ?_)
  rw [ha 472 (by omega), ha 490 (by omega), ha 491 (by omega), ha 492 (by omega), ha 493 (by omega), ha 494 (by omega), ha 495 (by omega), ha 496 (by omega)]
  have hw1 := RW.new (N := N) (len := len) (m := 4) (by omega)
  replace hL := hL.up (m := 4)
  refine v_astore (lv' := [(0, .ref (ad 472)), (1, .ref (ad 490)), (2, .ref (ad 491)), (3, .ref (ad 492)), (4, .ref (ad 493)), (5, .ref (ad 494)), (6, .ref (ad 495)), (7, .ref (ad 496)), (8, .int x8), (9, .int s0), (10, .ref (ad N))]) X dL_isSo_121 (by decide) rfl ?_
  refine v_iconst X (v := (nI 0)) (by decide) dL_isSo_123 ?_
  refine v_istore (lv' := [(0, .ref (ad 472)), (1, .ref (ad 490)), (2, .ref (ad 491)), (3, .ref (ad 492)), (4, .ref (ad 493)), (5, .ref (ad 494)), (6, .ref (ad 495)), (7, .ref (ad 496)), (8, .int x8), (9, .int s0), (10, .ref (ad N)), (11, .int (nI 0))]) X dL_isSo_124 (by decide) rfl ?_
  refine v_iconst X (v := (nI 0)) (by decide) dL_isSo_126 ?_
  refine v_istore (lv' := [(0, .ref (ad 472)), (1, .ref (ad 490)), (2, .ref (ad 491)), (3, .ref (ad 492)), (4, .ref (ad 493)), (5, .ref (ad 494)), (6, .ref (ad 495)), (7, .ref (ad 496)), (8, .int x8), (9, .int s0), (10, .ref (ad N)), (11, .int (nI 0)), (12, .int (nI 0))]) X dL_isSo_127 (by decide) rfl ?_
  refine t_L_isSo_L129 X Y hL hw1 ?_ _ _ _ _ _ _ _ ?_ ?_ hf
  · intro cells slots x9_2 x11_3 w4 hB1 hB2 hf
    exact t_L_isSo_j715 X Y hL (by omega) (by omega) hf
  · have hFU : FU * 0 = 0 := rfl; omega
  · have hFU : FU * 0 = 0 := rfl; omega
set_option maxRecDepth 100000 in
set_option maxHeartbeats 4000000 in
theorem t_L_isSo_j115 (X : VX p s m args c cL_isSo 20 RL wsL_isSo D cI cL cS aC N0 ad0 len0 N ad len) (Y : RX meth (some .boolean)) (hL : LK N len) {x8 : Int32} {w : Wd} {out : Int32 × Wd} (hB1 : cells + 1 ≤ 1) (hB2 : slots + 4 ≤ 4) (hf : m_L_isSo_j115 N x8 w = some out) : VJ p l e rmL_isSo s m args below meth c (MQ below (QZi D N0 ad0 (cellL cI cL cS aC len0) out.1 out.2 s.heap.size) args s 1 4 (AF N0 ad0 s.heap.size)) 20 D cI cL cS aC N0 ad0 N ad len cells slots w 115 [(0, .ref (ad 472)), (1, .ref (ad 490)), (2, .ref (ad 491)), (3, .ref (ad 492)), (4, .ref (ad 493)), (5, .ref (ad 494)), (6, .ref (ad 495)), (7, .ref (ad 496)), (8, .int x8)] [] := by
  unfold m_L_isSo_j115 at hf
  have hN := hL.1
  refine v_iconst X (v := (nI 0)) (by decide) dL_isSo_115 ?_
  exact t_L_isSo_j116 X Y hL (by omega) (by omega) hf
set_option maxRecDepth 100000 in
set_option maxHeartbeats 4000000 in
theorem c_L_isSo (hI : Inj N ad) (hA : AC aC N ad) (hL : LK N len) {w : Wd} {out : Int32 × Wd} (hf : m_L_isSo N w = some out) : ∀ sz : Nat, Met l yL_isSo wsL_isSo rmL_isSo (va_Pc [.ref (ad 472), .ref (ad 490), .ref (ad 491), .ref (ad 492), .ref (ad 493), .ref (ad 494), .ref (ad 495), .ref (ad 496)] (PZ sz D (tC cI cL cS) N ad (cellL cI cL cS aC len) w)) (QZi D N ad (cellL cI cL cS aC len) out.1 out.2 sz) 1 4 (AF N ad sz) := by
  intro sz
  refine mk_metZ (maxL := 20) (ret := (some .boolean)) RL hI hA hL.n490 (by decide) rfl rfl (Nat.le_of_ble_eq_true rfl) rfl rfl (fun p e s m args below meth c hsz X Y => ?_)
  subst hsz
  unfold m_L_isSo at hf
  have hN := hL.1
  refine v_aload_n X 1 dL_isSo_0 rfl rfl ?_
  refine v_bipush X (v := (nI 20)) (by decide) dL_isSo_1 ?_
  obtain ⟨hi1, hf⟩ := f_c hf
  refine v_iald X (lk0 hL) hi1 dL_isSo_3 ?_
  refine v_aload_n X 1 dL_isSo_4 rfl rfl ?_
  refine v_bipush X (v := (nI 21)) (by decide) dL_isSo_5 ?_
  obtain ⟨hi2, hf⟩ := f_c hf
  refine v_iald X (lk0 hL) hi2 dL_isSo_7 ?_
  refine v_iadd X dL_isSo_8 ?_
  refine v_aload_n X 1 dL_isSo_9 rfl rfl ?_
  refine v_bipush X (v := (nI 22)) (by decide) dL_isSo_10 ?_
  obtain ⟨hi3, hf⟩ := f_c hf
  refine v_iald X (lk0 hL) hi3 dL_isSo_12 ?_
  refine v_iadd X dL_isSo_13 ?_
  refine v_aload_n X 1 dL_isSo_14 rfl rfl ?_
  refine v_bipush X (v := (nI 23)) (by decide) dL_isSo_15 ?_
  obtain ⟨hi4, hf⟩ := f_c hf
  refine v_iald X (lk0 hL) hi4 dL_isSo_17 ?_
  refine v_iadd X dL_isSo_18 ?_
  obtain ⟨x8_5, ex8_5, hf⟩ := f_lt hf
  refine v_top ex8_5 ?_
  refine v_istore (lv' := [(0, .ref (ad 472)), (1, .ref (ad 490)), (2, .ref (ad 491)), (3, .ref (ad 492)), (4, .ref (ad 493)), (5, .ref (ad 494)), (6, .ref (ad 495)), (7, .ref (ad 496)), (8, .int x8_5)]) X dL_isSo_19 (by decide) rfl ?_
  refine v_aload_n X 0 dL_isSo_21 rfl rfl ?_
  refine v_iconst X (v := (nI 0)) (by decide) dL_isSo_22 ?_
  obtain ⟨o6, ho6, hf⟩ := f_bd hf
  refine v_callCi X hL.n490 [.int (nI 0)] (c_X7_count X.inC ho6) (cwV 1 X.2.2.2.2.1 gL_isSo_X7_count rfl rfl rfl (by decide +kernel) ⟨Nat.le_of_ble_eq_true rfl, Nat.le_of_ble_eq_true rfl⟩) rfl rfl (Nat.le_of_ble_eq_true rfl) ⟨by show _ ≤ 1; omega, by show _ ≤ 4; omega⟩ dL_isSo_23 wj_self.symm ?_
  refine v_aload_n X 1 dL_isSo_26 rfl rfl ?_
  refine v_iconst X (v := (nI 0)) (by decide) dL_isSo_27 ?_
  obtain ⟨hi7, hf⟩ := f_c hf
  refine v_iald X (lk0 hL) hi7 dL_isSo_28 ?_
  refine v_icmp_ne (tgt := 115) X dL_isSo_29 (by decide) (fun c => ?_) (fun c => ?_)
  · replace hf := f_t c hf
    exact t_L_isSo_j115 X Y hL (by omega) (by omega) hf
  replace hf := f_fn c hf
  refine v_aload_n X 0 dL_isSo_32 rfl rfl ?_
  refine v_iconst X (v := (nI 1)) (by decide) dL_isSo_33 ?_
  obtain ⟨o8, ho8, hf⟩ := f_bd hf
  refine v_callCi X hL.n490 [.int (nI 1)] (c_X7_count X.inC ho8) (cwV 1 X.2.2.2.2.1 gL_isSo_X7_count rfl rfl rfl (by decide +kernel) ⟨Nat.le_of_ble_eq_true rfl, Nat.le_of_ble_eq_true rfl⟩) rfl rfl (Nat.le_of_ble_eq_true rfl) ⟨by show _ ≤ 1; omega, by show _ ≤ 4; omega⟩ dL_isSo_34 wj_self.symm ?_
  refine v_aload_n X 1 dL_isSo_37 rfl rfl ?_
  refine v_iconst X (v := (nI 1)) (by decide) dL_isSo_38 ?_
  obtain ⟨hi9, hf⟩ := f_c hf
  refine v_iald X (lk0 hL) hi9 dL_isSo_39 ?_
  refine v_icmp_ne (tgt := 115) X dL_isSo_40 (by decide) (fun c => ?_) (fun c => ?_)
  · replace hf := f_t c hf
    exact t_L_isSo_j115 X Y hL (by omega) (by omega) hf
  replace hf := f_fn c hf
  refine v_aload_n X 0 dL_isSo_43 rfl rfl ?_
  refine v_iconst X (v := (nI 2)) (by decide) dL_isSo_44 ?_
  obtain ⟨o10, ho10, hf⟩ := f_bd hf
  refine v_callCi X hL.n490 [.int (nI 2)] (c_X7_count X.inC ho10) (cwV 1 X.2.2.2.2.1 gL_isSo_X7_count rfl rfl rfl (by decide +kernel) ⟨Nat.le_of_ble_eq_true rfl, Nat.le_of_ble_eq_true rfl⟩) rfl rfl (Nat.le_of_ble_eq_true rfl) ⟨by show _ ≤ 1; omega, by show _ ≤ 4; omega⟩ dL_isSo_45 wj_self.symm ?_
  refine v_aload_n X 1 dL_isSo_48 rfl rfl ?_
  refine v_iconst X (v := (nI 2)) (by decide) dL_isSo_49 ?_
  obtain ⟨hi11, hf⟩ := f_c hf
  refine v_iald X (lk0 hL) hi11 dL_isSo_50 ?_
  refine v_icmp_ne (tgt := 115) X dL_isSo_51 (by decide) (fun c => ?_) (fun c => ?_)
  · replace hf := f_t c hf
    exact t_L_isSo_j115 X Y hL (by omega) (by omega) hf
  replace hf := f_fn c hf
  refine v_aload_n X 0 dL_isSo_54 rfl rfl ?_
  refine v_iconst X (v := (nI 3)) (by decide) dL_isSo_55 ?_
  obtain ⟨o12, ho12, hf⟩ := f_bd hf
  refine v_callCi X hL.n490 [.int (nI 3)] (c_X7_count X.inC ho12) (cwV 1 X.2.2.2.2.1 gL_isSo_X7_count rfl rfl rfl (by decide +kernel) ⟨Nat.le_of_ble_eq_true rfl, Nat.le_of_ble_eq_true rfl⟩) rfl rfl (Nat.le_of_ble_eq_true rfl) ⟨by show _ ≤ 1; omega, by show _ ≤ 4; omega⟩ dL_isSo_56 wj_self.symm ?_
  refine v_iload X 8 dL_isSo_59 rfl ?_
  refine v_icmp_ne (tgt := 115) X dL_isSo_61 (by decide) (fun c => ?_) (fun c => ?_)
  · replace hf := f_t c hf
    exact t_L_isSo_j115 X Y hL (by omega) (by omega) hf
  replace hf := f_fn c hf
  refine v_aload_n X 0 dL_isSo_64 rfl rfl ?_
  refine v_iconst X (v := (nI 4)) (by decide) dL_isSo_65 ?_
  obtain ⟨o13, ho13, hf⟩ := f_bd hf
  refine v_callCi X hL.n490 [.int (nI 4)] (c_X7_count X.inC ho13) (cwV 1 X.2.2.2.2.1 gL_isSo_X7_count rfl rfl rfl (by decide +kernel) ⟨Nat.le_of_ble_eq_true rfl, Nat.le_of_ble_eq_true rfl⟩) rfl rfl (Nat.le_of_ble_eq_true rfl) ⟨by show _ ≤ 1; omega, by show _ ≤ 4; omega⟩ dL_isSo_66 wj_self.symm ?_
  refine v_aload_n X 1 dL_isSo_69 rfl rfl ?_
  refine v_iconst X (v := (nI 3)) (by decide) dL_isSo_70 ?_
  obtain ⟨hi14, hf⟩ := f_c hf
  refine v_iald X (lk0 hL) hi14 dL_isSo_71 ?_
  refine v_icmp_ne (tgt := 115) X dL_isSo_72 (by decide) (fun c => ?_) (fun c => ?_)
  · replace hf := f_t c hf
    exact t_L_isSo_j115 X Y hL (by omega) (by omega) hf
  replace hf := f_fn c hf
  refine v_aload_n X 0 dL_isSo_75 rfl rfl ?_
  refine v_iconst X (v := (nI 5)) (by decide) dL_isSo_76 ?_
  obtain ⟨o15, ho15, hf⟩ := f_bd hf
  refine v_callCi X hL.n490 [.int (nI 5)] (c_X7_count X.inC ho15) (cwV 1 X.2.2.2.2.1 gL_isSo_X7_count rfl rfl rfl (by decide +kernel) ⟨Nat.le_of_ble_eq_true rfl, Nat.le_of_ble_eq_true rfl⟩) rfl rfl (Nat.le_of_ble_eq_true rfl) ⟨by show _ ≤ 1; omega, by show _ ≤ 4; omega⟩ dL_isSo_77 wj_self.symm ?_
  refine v_aload_n X 1 dL_isSo_80 rfl rfl ?_
  refine v_iconst X (v := (nI 4)) (by decide) dL_isSo_81 ?_
  obtain ⟨hi16, hf⟩ := f_c hf
  refine v_iald X (lk0 hL) hi16 dL_isSo_82 ?_
  refine v_icmp_ne (tgt := 115) X dL_isSo_83 (by decide) (fun c => ?_) (fun c => ?_)
  · replace hf := f_t c hf
    exact t_L_isSo_j115 X Y hL (by omega) (by omega) hf
  replace hf := f_fn c hf
  refine v_aload_n X 0 dL_isSo_86 rfl rfl ?_
  refine v_bipush X (v := (nI 6)) (by decide) dL_isSo_87 ?_
  obtain ⟨o17, ho17, hf⟩ := f_bd hf
  refine v_callCi X hL.n490 [.int (nI 6)] (c_X7_count X.inC ho17) (cwV 1 X.2.2.2.2.1 gL_isSo_X7_count rfl rfl rfl (by decide +kernel) ⟨Nat.le_of_ble_eq_true rfl, Nat.le_of_ble_eq_true rfl⟩) rfl rfl (Nat.le_of_ble_eq_true rfl) ⟨by show _ ≤ 1; omega, by show _ ≤ 4; omega⟩ dL_isSo_89 wj_self.symm ?_
  refine v_aload_n X 1 dL_isSo_92 rfl rfl ?_
  refine v_iconst X (v := (nI 5)) (by decide) dL_isSo_93 ?_
  obtain ⟨hi18, hf⟩ := f_c hf
  refine v_iald X (lk0 hL) hi18 dL_isSo_94 ?_
  refine v_icmp_ne (tgt := 115) X dL_isSo_95 (by decide) (fun c => ?_) (fun c => ?_)
  · replace hf := f_t c hf
    exact t_L_isSo_j115 X Y hL (by omega) (by omega) hf
  replace hf := f_fn c hf
  refine v_aload_n X 0 dL_isSo_98 rfl rfl ?_
  refine v_bipush X (v := (nI 7)) (by decide) dL_isSo_99 ?_
  obtain ⟨o19, ho19, hf⟩ := f_bd hf
  refine v_callCi X hL.n490 [.int (nI 7)] (c_X7_count X.inC ho19) (cwV 1 X.2.2.2.2.1 gL_isSo_X7_count rfl rfl rfl (by decide +kernel) ⟨Nat.le_of_ble_eq_true rfl, Nat.le_of_ble_eq_true rfl⟩) rfl rfl (Nat.le_of_ble_eq_true rfl) ⟨by show _ ≤ 1; omega, by show _ ≤ 4; omega⟩ dL_isSo_101 wj_self.symm ?_
  refine v_aload_n X 1 dL_isSo_104 rfl rfl ?_
  refine v_bipush X (v := (nI 6)) (by decide) dL_isSo_105 ?_
  obtain ⟨hi20, hf⟩ := f_c hf
  refine v_iald X (lk0 hL) hi20 dL_isSo_107 ?_
  refine v_icmp_ne (tgt := 115) X dL_isSo_108 (by decide) (fun c => ?_) (fun c => ?_)
  · replace hf := f_t c hf
    exact t_L_isSo_j115 X Y hL (by omega) (by omega) hf
  replace hf := f_fn c hf
  refine v_iconst X (v := (nI 1)) (by decide) dL_isSo_111 ?_
  refine v_goto (tgt := 116) X dL_isSo_112 (by decide) ?_
  exact t_L_isSo_j116 X Y hL (by omega) (by omega) hf
end WALK72
