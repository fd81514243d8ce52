/-! ===== the bytecode does what the model says (printed by wip/p27/tools/genL.py) ===== -/
section WALK74
variable {p : Program} {l : Launch} {e : Env} {s : State} {m : MethodId} {args : Array Value} {below : List Frame} {meth : Method} {c : Code} {D : va_G} {cI cL cS : ClassId} {ad : Nat → Nat} {aC ad0 : Nat → Nat} {N N0 : Nat} {len len0 : Nat → Nat} {cells slots : Nat}
abbrev rmL_acts : Room := { frames := 7, cells := 883, slots := 7946, locals := 178 }
set_option maxRecDepth 100000 in
set_option maxHeartbeats 4000000 in
theorem t_L_acts_j134 (X : VX p s m args c cL_acts 24 RL wsL_acts D cI cL cS aC N0 ad0 len0 N ad len) (Y : RX meth (some .boolean)) (hL : LK N len) {s1 : Int32} {s2 : Int32} {s3 : Int32} {s4 : Int32} {w : Wd} {out : Int32 × Wd} (hB1 : cells + 0 ≤ 883) (hB2 : slots + 0 ≤ 7946) (hf : m_L_acts_j134 N s1 s2 s3 s4 w = some out) : VJ p l e rmL_acts s m args below meth c (MQ below (QZi D N0 ad0 (cellL cI cL cS aC len0) out.1 out.2 s.heap.size) args s 883 7946 (AF N0 ad0 s.heap.size)) 24 D cI cL cS aC N0 ad0 N ad len cells slots w 134 [(0, .ref (ad 472)), (1, .ref (ad 490))] [.int s4, .int s3, .int s2, .int s1, .ref (ad 490)] := by
  unfold m_L_acts_j134 at hf
  have hN := hL.1
  obtain ⟨o1, ho1, hf⟩ := f_bd hf
  refine v_callSi X [.int s3, .int s4] (c_L_low X.inj ho1) (va_cwS 2 X.2.2.2.2.1 gL_acts_L_low rfl rfl rfl (by decide +kernel) ⟨Nat.le_of_ble_eq_true rfl, Nat.le_of_ble_eq_true rfl⟩) rfl rfl (Nat.le_of_ble_eq_true rfl) ⟨by show _ ≤ 883; omega, by show _ ≤ 7946; omega⟩ dL_acts_134 ?_
  refine v_iadd X dL_acts_137 ?_
  obtain ⟨hi2, hf⟩ := f_c hf
  obtain ⟨w3, ew3, hf⟩ := f_lt hf
  refine v_iast X (lk0 hL) hi2 dL_acts_138 ew3 ?_
  refine v_aload_n X 0 dL_acts_139 rfl rfl ?_
  refine v_aload_n X 1 dL_acts_140 rfl rfl ?_
  refine v_iconst X (v := (nI 1)) (by decide) dL_acts_141 ?_
  obtain ⟨hi4, hf⟩ := f_c hf
  refine v_iald X (lk0 hL) hi4 dL_acts_142 ?_
  refine v_aload_n X 1 dL_acts_143 rfl rfl ?_
  refine v_iconst X (v := (nI 2)) (by decide) dL_acts_144 ?_
  obtain ⟨hi5, hf⟩ := f_c hf
  refine v_iald X (lk0 hL) hi5 dL_acts_145 ?_
  obtain ⟨o6, ho6, hf⟩ := f_bd hf
  obtain ⟨w7, ew7, hf⟩ := f_lt hf
  refine v_callCi X hL.n490 [.int (w3 490 (nI 1).toNatClampNeg), .int (w3 490 (nI 2).toNatClampNeg)] (c_X7_setLimits X.inC ho6) (cwV 2 X.2.2.2.2.1 gL_acts_X7_setLimits rfl rfl rfl (by decide +kernel) ⟨Nat.le_of_ble_eq_true rfl, Nat.le_of_ble_eq_true rfl⟩) rfl rfl (Nat.le_of_ble_eq_true rfl) ⟨by show _ ≤ 883; omega, by show _ ≤ 7946; omega⟩ dL_acts_146 ew7 ?_
  refine v_if_lt (tgt := 156) X dL_acts_149 (by decide) (fun c => ?_) (fun c => ?_)
  · replace hf := f_t c hf
    refine v_iconst X (v := (nI 0)) (by decide) dL_acts_156 ?_
    exact v_bret X Y (by omega) (by omega) (Eq.trans (by decide : (nI 0) &&& 1 = (nI 0)) (f_p1 hf)) (f_p2 hf) dL_acts_157
  replace hf := f_f c hf
  refine v_iconst X (v := (nI 1)) (by decide) dL_acts_152 ?_
  refine v_goto (tgt := 157) X dL_acts_153 (by decide) ?_
  exact v_bret X Y (by omega) (by omega) (Eq.trans (by decide : (nI 1) &&& 1 = (nI 1)) (f_p1 hf)) (f_p2 hf) dL_acts_157
set_option maxRecDepth 100000 in
set_option maxHeartbeats 4000000 in
theorem t_L_acts_j357 {rk1 rk2 : Nat} (X : VX p s m args c cL_acts 24 RL wsL_acts D cI cL cS aC N0 ad0 len0 N ad len) (Y : RX meth (some .boolean)) (hL : LK N len) {q12 : Nat} {x10 : Int32} {x14 : Int32} {s0 : Int32} {w : Wd} {kc : Int32 → Int32 → Wd → Option (Int32 × Wd)} {out : Int32 × Wd} (hq12 : RW N len q12 4) (hB1 : cells + (0 + rk1) ≤ 883) (hB2 : slots + (0 + rk2) ≤ 7946) (hX1 : 0 ≤ rk1) (hX2 : 0 ≤ rk2) (hf : m_L_acts_j357 N q12 x10 x14 s0 w kc = some out) (hk_kc : ∀ (cells slots : Nat) (y13 : Int32) (y14 : Int32) (v : Wd), cells + rk1 ≤ 883 → slots + rk2 ≤ 7946 → kc y13 y14 v = some out → VJ p l e rmL_acts s m args below meth c (MQ below (QZi D N0 ad0 (cellL cI cL cS aC len0) out.1 out.2 s.heap.size) args s 883 7946 (AF N0 ad0 s.heap.size)) 24 D cI cL cS aC N0 ad0 N ad len cells slots v 318 [(0, .ref (ad 472)), (1, .ref (ad 490)), (10, .int x10), (12, .ref (ad q12)), (13, .int y13), (14, .int y14)] []) : VJ p l e rmL_acts s m args below meth c (MQ below (QZi D N0 ad0 (cellL cI cL cS aC len0) out.1 out.2 s.heap.size) args s 883 7946 (AF N0 ad0 s.heap.size)) 24 D cI cL cS aC N0 ad0 N ad len cells slots w 357 [(0, .ref (ad 472)), (1, .ref (ad 490)), (10, .int x10), (12, .ref (ad q12)), (14, .int x14)] [.int s0] := by
  unfold m_L_acts_j357 at hf
  have hN := hL.1
  refine v_istore (lv' := [(0, .ref (ad 472)), (1, .ref (ad 490)), (10, .int x10), (12, .ref (ad q12)), (13, .int s0), (14, .int x14)]) X dL_acts_357 (by decide) rfl ?_
  refine v_iinc (v := (x14 + (nI 1))) (lv' := [(0, .ref (ad 472)), (1, .ref (ad 490)), (10, .int x10), (12, .ref (ad q12)), (13, .int s0), (14, .int (x14 + (nI 1)))]) X 5 dL_acts_359 rfl rfl (by decide) rfl ?_
  refine v_goto (tgt := 318) X dL_acts_362 (by decide) ?_
  exact hk_kc _ _ _ _ _ (by omega) (by omega) hf
set_option maxRecDepth 100000 in
set_option maxHeartbeats 4000000 in
theorem t_L_acts_j356 {rk1 rk2 : Nat} (X : VX p s m args c cL_acts 24 RL wsL_acts D cI cL cS aC N0 ad0 len0 N ad len) (Y : RX meth (some .boolean)) (hL : LK N len) {q12 : Nat} {x10 : Int32} {x14 : Int32} {w : Wd} {kc : Int32 → Int32 → Wd → Option (Int32 × Wd)} {out : Int32 × Wd} (hq12 : RW N len q12 4) (hB1 : cells + (0 + rk1) ≤ 883) (hB2 : slots + (0 + rk2) ≤ 7946) (hX1 : 0 ≤ rk1) (hX2 : 0 ≤ rk2) (hf : m_L_acts_j356 N q12 x10 x14 w kc = some out) (hk_kc : ∀ (cells slots : Nat) (y13 : Int32) (y14 : Int32) (v : Wd), cells + rk1 ≤ 883 → slots + rk2 ≤ 7946 → kc y13 y14 v = some out → VJ p l e rmL_acts s m args below meth c (MQ below (QZi D N0 ad0 (cellL cI cL cS aC len0) out.1 out.2 s.heap.size) args s 883 7946 (AF N0 ad0 s.heap.size)) 24 D cI cL cS aC N0 ad0 N ad len cells slots v 318 [(0, .ref (ad 472)), (1, .ref (ad 490)), (10, .int x10), (12, .ref (ad q12)), (13, .int y13), (14, .int y14)] []) : VJ p l e rmL_acts s m args below meth c (MQ below (QZi D N0 ad0 (cellL cI cL cS aC len0) out.1 out.2 s.heap.size) args s 883 7946 (AF N0 ad0 s.heap.size)) 24 D cI cL cS aC N0 ad0 N ad len cells slots w 356 [(0, .ref (ad 472)), (1, .ref (ad 490)), (10, .int x10), (12, .ref (ad q12)), (14, .int x14)] [] := by
  unfold m_L_acts_j356 at hf
  have hN := hL.1
  refine v_iconst X (v := (nI 0)) (by decide) dL_acts_356 ?_
  exact t_L_acts_j357 (rk1 := rk1) (rk2 := rk2) X Y hL hq12 (by omega) (by omega) (by omega) (by omega) hf hk_kc
set_option maxRecDepth 100000 in
set_option maxHeartbeats 4000000 in
theorem t_L_acts_L318 (X : VX p s m args c cL_acts 24 RL wsL_acts D cI cL cS aC N0 ad0 len0 N ad len) (Y : RX meth (some .boolean)) (hL : LK N len) {q12 : Nat} {x10 : Int32} {out : Int32 × Wd} (hq12 : RW N len q12 4) : ∀ (n : Nat) (cells slots : Nat) (x13 : Int32) (x14 : Int32) (w : Wd), cells + (n * 0 + 0) ≤ 883 → slots + (n * 0 + 0) ≤ 7946 → m_L_acts_L318 N q12 x10 n x13 x14 w = some out → VJ p l e rmL_acts s m args below meth c (MQ below (QZi D N0 ad0 (cellL cI cL cS aC len0) out.1 out.2 s.heap.size) args s 883 7946 (AF N0 ad0 s.heap.size)) 24 D cI cL cS aC N0 ad0 N ad len cells slots w 318 [(0, .ref (ad 472)), (1, .ref (ad 490)), (10, .int x10), (12, .ref (ad q12)), (13, .int x13), (14, .int x14)] [] := by
  intro n
  induction n with
  | zero => intro cells slots x13 x14 w hB1 hB2 hf; exact f_n hf
  | succ n ih =>
    intro cells slots x13 x14 w hB1 hB2 hf
    rw [m_L_acts_L318] at hf
    have hN := hL.1
    refine v_iload X 5 dL_acts_318 rfl ?_
    refine v_iconst X (v := (nI 4)) (by decide) dL_acts_320 ?_
    refine v_icmp_ge (tgt := 365) X dL_acts_321 (by decide) (fun c => ?_) (fun c => ?_)
    · replace hf := f_t c hf
      refine v_iload X 4 dL_acts_365 rfl ?_
      exact v_bret X Y (by omega) (by omega) (f_p1 hf) (f_p2 hf) dL_acts_367
    replace hf := f_f c hf
    refine v_iload X 4 dL_acts_324 rfl ?_
    refine v_if_eq (tgt := 356) X dL_acts_326 (by decide) (fun c => ?_) (fun c => ?_)
    · replace hf := f_t c hf
      refine v_sub [0, 1, 2, 3, 5] rfl ?_
      exact t_L_acts_j356 (rk1 := (n * 0 + 0)) (rk2 := (n * 0 + 0)) X Y hL hq12 (by omega) (by omega) (by omega) (by omega) hf ih
    replace hf := f_f c hf
    refine v_aload_n X 0 dL_acts_329 rfl rfl ?_
    refine v_iload X 2 dL_acts_330 rfl ?_
    refine v_aload_n X 1 dL_acts_332 rfl rfl ?_
    refine v_bipush X (v := (nI 20)) (by decide) dL_acts_333 ?_
    refine v_iload X 2 dL_acts_335 rfl ?_
    refine v_iadd X dL_acts_337 ?_
    obtain ⟨hi1, hf⟩ := f_c hf
    refine v_iald X (lk0 hL) hi1 dL_acts_338 ?_
    refine v_iload X 5 dL_acts_339 rfl ?_
    obtain ⟨o2, ho2, hf⟩ := f_bd hf
    refine v_callCi X hL.n490 [.int x10, .int (w 490 ((nI 20) + x10).toNatClampNeg), .int x14] (c_X7_cause X.inC ho2) (cwV 3 X.2.2.2.2.1 gL_acts_X7_cause rfl rfl rfl (by decide +kernel) ⟨Nat.le_of_ble_eq_true rfl, Nat.le_of_ble_eq_true rfl⟩) rfl rfl (Nat.le_of_ble_eq_true rfl) ⟨by show _ ≤ 883; omega, by show _ ≤ 7946; omega⟩ dL_acts_341 wj_self.symm ?_
    refine v_aload X 3 dL_acts_344 rfl ?_
    refine v_iload X 5 dL_acts_346 rfl ?_
    obtain ⟨hi3, hf⟩ := f_c hf
    refine v_iald X hq12 hi3 dL_acts_348 ?_
    refine v_icmp_ne (tgt := 356) X dL_acts_349 (by decide) (fun c => ?_) (fun c => ?_)
    · replace hf := f_t c hf
      refine v_sub [0, 1, 2, 3, 5] rfl ?_
      exact t_L_acts_j356 (rk1 := (n * 0 + 0)) (rk2 := (n * 0 + 0)) X Y hL hq12 (by omega) (by omega) (by omega) (by omega) hf ih
    replace hf := f_fn c hf
    refine v_iconst X (v := (nI 1)) (by decide) dL_acts_352 ?_
    refine v_goto (tgt := 357) X dL_acts_353 (by decide) ?_
    refine v_sub [0, 1, 2, 3, 5] rfl ?_
    exact t_L_acts_j357 (rk1 := (n * 0 + 0)) (rk2 := (n * 0 + 0)) X Y hL hq12 (by omega) (by omega) (by omega) (by omega) hf ih
set_option maxRecDepth 100000 in
set_option maxHeartbeats 4000000 in
theorem t_L_acts_j313 (X : VX p s m args c cL_acts 24 RL wsL_acts D cI cL cS aC N0 ad0 len0 N ad len) (Y : RX meth (some .boolean)) (hL : LK N len) {q12 : Nat} {x10 : Int32} {s0 : Int32} {w : Wd} {out : Int32 × Wd} (hq12 : RW N len q12 4) (hB1 : cells + 0 ≤ 883) (hB2 : slots + 0 ≤ 7946) (hf : m_L_acts_j313 N q12 x10 s0 w = some out) : VJ p l e rmL_acts s m args below meth c (MQ below (QZi D N0 ad0 (cellL cI cL cS aC len0) out.1 out.2 s.heap.size) args s 883 7946 (AF N0 ad0 s.heap.size)) 24 D cI cL cS aC N0 ad0 N ad len cells slots w 313 [(0, .ref (ad 472)), (1, .ref (ad 490)), (10, .int x10), (12, .ref (ad q12))] [.int s0] := by
  unfold m_L_acts_j313 at hf
  have hN := hL.1
  refine v_istore (lv' := [(0, .ref (ad 472)), (1, .ref (ad 490)), (10, .int x10), (12, .ref (ad q12)), (13, .int s0)]) X dL_acts_313 (by decide) rfl ?_
  refine v_iconst X (v := (nI 0)) (by decide) dL_acts_315 ?_
  refine v_istore (lv' := [(0, .ref (ad 472)), (1, .ref (ad 490)), (10, .int x10), (12, .ref (ad q12)), (13, .int s0), (14, .int (nI 0))]) X dL_acts_316 (by decide) rfl ?_
  refine t_L_acts_L318 X Y hL hq12 _ _ _ _ _ _ ?_ ?_ hf
  · have hFU : FU * 0 = 0 := rfl; omega
  · have hFU : FU * 0 = 0 := rfl; omega
set_option maxRecDepth 100000 in
set_option maxHeartbeats 4000000 in
theorem t_L_acts_j158 (X : VX p s m args c cL_acts 24 RL wsL_acts D cI cL cS aC N0 ad0 len0 N ad len) (Y : RX meth (some .boolean)) (hL : LK N len) {x10 : Int32} {w : Wd} {out : Int32 × Wd} (hB1 : cells + 3 ≤ 883) (hB2 : slots + 22 ≤ 7946) (hf : m_L_acts_j158 N x10 w = some out) : VJ p l e rmL_acts s m args below meth c (MQ below (QZi D N0 ad0 (cellL cI cL cS aC len0) out.1 out.2 s.heap.size) args s 883 7946 (AF N0 ad0 s.heap.size)) 24 D cI cL cS aC N0 ad0 N ad len cells slots w 158 [(0, .ref (ad 472)), (1, .ref (ad 490)), (2, .ref (ad 491)), (3, .ref (ad 492)), (4, .ref (ad 493)), (5, .ref (ad 494)), (6, .ref (ad 495)), (7, .ref (ad 496)), (10, .int x10)] [] := by
  unfold m_L_acts_j158 at hf
  have hN := hL.1
  refine v_aload_n X 1 dL_acts_158 rfl rfl ?_
  refine v_bipush X (v := (nI 20)) (by decide) dL_acts_159 ?_
  refine v_iload X 8 dL_acts_161 rfl ?_
  refine v_iadd X dL_acts_163 ?_
  obtain ⟨hi1, hf⟩ := f_c hf
  refine v_iald X (lk0 hL) hi1 dL_acts_164 ?_
  refine v_bipush X (v := (nI 12)) (by decide) dL_acts_165 ?_
  refine v_icmp_ne (tgt := 172) X dL_acts_167 (by decide) (fun c => ?_) (fun c => ?_)
  · replace hf := f_t c hf
    refine v_iconst X (v := (nI 4)) (by decide) dL_acts_172 ?_
    obtain ⟨w2, ew2, hf⟩ := f_lt hf
    refine v_newi X (List.mem_of_getElem? (i := 1) rfl) (n := nI 4) (N' := 4) (by decide) rfl (Nat.le_of_ble_eq_true rfl) (by omega) (by show _ ≤ 883; omega) (by show _ ≤ 7946; omega) dL_acts_173 ew2 (fun ad X ha => ?_)
    rw [ha 472 (by omega), ha 490 (by omega), ha 491 (by omega), ha 492 (by omega), ha 493 (by omega), ha 494 (by omega), ha 495 (by omega), ha 496 (by omega)]
    have hw1 := RW.new (N := N) (len := len) (m := 4) (by omega)
    replace hL := hL.up (m := 4)
    refine v_astore (lv' := [(0, .ref (ad 472)), (1, .ref (ad 490)), (2, .ref (ad 491)), (3, .ref (ad 492)), (4, .ref (ad 493)), (5, .ref (ad 494)), (6, .ref (ad 495)), (7, .ref (ad 496)), (10, .int x10), (12, .ref (ad N))]) X dL_acts_175 (by decide) rfl ?_
    refine v_aload_n X 2 dL_acts_177 rfl rfl ?_
    refine v_aload_n X 3 dL_acts_178 rfl rfl ?_
    refine v_aload_n X 1 dL_acts_179 rfl rfl ?_
    refine v_bipush X (v := (nI 16)) (by decide) dL_acts_180 ?_
    refine v_iload X 8 dL_acts_182 rfl ?_
    refine v_iadd X dL_acts_184 ?_
    obtain ⟨hi3, hf⟩ := f_c hf
    refine v_iald X (lk0 hL) hi3 dL_acts_185 ?_
    refine v_aload X 9 dL_acts_186 rfl ?_
    obtain ⟨o4, ho4, hf⟩ := f_bd hf
    refine v_callSv X [.ref (ad 491), .ref (ad 492), .int (w2 490 ((nI 16) + x10).toNatClampNeg), .ref (ad N)] (c_L_serve X.inj (RW.i (lk1 hL)) (RW.i (lk2 hL)) (RW.i hw1) ho4) (va_cwS 4 X.2.2.2.2.1 gL_acts_L_serve rfl rfl rfl (by decide +kernel) ⟨Nat.le_of_ble_eq_true rfl, Nat.le_of_ble_eq_true rfl⟩) rfl rfl (Nat.le_of_ble_eq_true rfl) ⟨by show _ ≤ 883; omega, by show _ ≤ 7946; omega⟩ dL_acts_188 ?_
    refine v_aload X 9 dL_acts_191 rfl ?_
    refine v_iload X 8 dL_acts_193 rfl ?_
    refine v_aload_n X 1 dL_acts_195 rfl rfl ?_
    refine v_bipush X (v := (nI 20)) (by decide) dL_acts_196 ?_
    refine v_iload X 8 dL_acts_198 rfl ?_
    refine v_iadd X dL_acts_200 ?_
    obtain ⟨hi5, hf⟩ := f_c hf
    refine v_iald X (lk0 hL) hi5 dL_acts_201 ?_
    obtain ⟨hi6, hf⟩ := f_c hf
    obtain ⟨w7, ew7, hf⟩ := f_lt hf
    refine v_iast X hw1 hi6 dL_acts_202 ew7 ?_
    refine v_aload_n X 3 dL_acts_203 rfl rfl ?_
    refine v_bipush X (v := (nI 12)) (by decide) dL_acts_204 ?_
    refine v_iload X 8 dL_acts_206 rfl ?_
    refine v_imul X dL_acts_208 ?_
    refine v_aload_n X 1 dL_acts_209 rfl rfl ?_
    refine v_bipush X (v := (nI 20)) (by decide) dL_acts_210 ?_
    refine v_iload X 8 dL_acts_212 rfl ?_
    refine v_iadd X dL_acts_214 ?_
    obtain ⟨hi8, hf⟩ := f_c hf
    refine v_iald X (lk0 hL) hi8 dL_acts_215 ?_
    refine v_iadd X dL_acts_216 ?_
    refine v_aload X 9 dL_acts_217 rfl ?_
    refine v_iconst X (v := (nI 0)) (by decide) dL_acts_219 ?_
    obtain ⟨hi9, hf⟩ := f_c hf
    refine v_iald X hw1 hi9 dL_acts_220 ?_
    refine v_aload X 9 dL_acts_221 rfl ?_
    refine v_iconst X (v := (nI 1)) (by decide) dL_acts_223 ?_
    obtain ⟨hi10, hf⟩ := f_c hf
    refine v_iald X hw1 hi10 dL_acts_224 ?_
    refine v_iconst X (v := (nI 5)) (by decide) dL_acts_225 ?_
    refine v_ishl X dL_acts_226 ?_
    refine v_ior X dL_acts_227 ?_
    refine v_aload X 9 dL_acts_228 rfl ?_
    refine v_iconst X (v := (nI 2)) (by decide) dL_acts_230 ?_
    obtain ⟨hi11, hf⟩ := f_c hf
    refine v_iald X hw1 hi11 dL_acts_231 ?_
    refine v_bipush X (v := (nI 10)) (by decide) dL_acts_232 ?_
    refine v_ishl X dL_acts_234 ?_
    refine v_ior X dL_acts_235 ?_
    refine v_aload X 9 dL_acts_236 rfl ?_
    refine v_iconst X (v := (nI 3)) (by decide) dL_acts_238 ?_
    obtain ⟨hi12, hf⟩ := f_c hf
    refine v_iald X hw1 hi12 dL_acts_239 ?_
    refine v_bipush X (v := (nI 15)) (by decide) dL_acts_240 ?_
    refine v_ishl X dL_acts_242 ?_
    refine v_ior X dL_acts_243 ?_
    obtain ⟨hi13, hf⟩ := f_c hf
    obtain ⟨w14, ew14, hf⟩ := f_lt hf
    refine v_iast X (lk2 hL) hi13 dL_acts_244 ew14 ?_
    refine v_aload_n X 1 dL_acts_245 rfl rfl ?_
    refine v_bipush X (v := (nI 20)) (by decide) dL_acts_246 ?_
    refine v_iload X 8 dL_acts_248 rfl ?_
    refine v_iadd X dL_acts_250 ?_
    refine v_dup2 X rfl rfl dL_acts_251 ?_
    obtain ⟨hi15, hf⟩ := f_c hf
    refine v_iald X (lk0 hL) hi15 dL_acts_252 ?_
    refine v_iconst X (v := (nI 1)) (by decide) dL_acts_253 ?_
    refine v_iadd X dL_acts_254 ?_
    obtain ⟨hi16, hf⟩ := f_c hf
    obtain ⟨w17, ew17, hf⟩ := f_lt hf
    refine v_iast X (lk0 hL) hi16 dL_acts_255 ew17 ?_
    refine v_aload_n X 1 dL_acts_256 rfl rfl ?_
    refine v_aload_n X 2 dL_acts_257 rfl rfl ?_
    refine v_aload_n X 3 dL_acts_258 rfl rfl ?_
    refine v_aload X 4 dL_acts_259 rfl ?_
    refine v_aload X 5 dL_acts_261 rfl ?_
    refine v_aload X 6 dL_acts_263 rfl ?_
    refine v_aload X 7 dL_acts_265 rfl ?_
    refine v_aload_n X 1 dL_acts_267 rfl rfl ?_
    refine v_bipush X (v := (nI 16)) (by decide) dL_acts_268 ?_
    refine v_iload X 8 dL_acts_270 rfl ?_
    refine v_iadd X dL_acts_272 ?_
    obtain ⟨hi18, hf⟩ := f_c hf
    refine v_iald X (lk0 hL) hi18 dL_acts_273 ?_
    refine v_bipush X (v := (nI 16)) (by decide) dL_acts_274 ?_
    refine v_iload X 8 dL_acts_276 rfl ?_
    refine v_imul X dL_acts_278 ?_
    refine v_aload_n X 1 dL_acts_279 rfl rfl ?_
    refine v_bipush X (v := (nI 20)) (by decide) dL_acts_280 ?_
    refine v_iload X 8 dL_acts_282 rfl ?_
    refine v_iadd X dL_acts_284 ?_
    obtain ⟨hi19, hf⟩ := f_c hf
    refine v_iald X (lk0 hL) hi19 dL_acts_285 ?_
    refine v_iadd X dL_acts_286 ?_
    refine v_iconst X (v := (-1 : Int32)) (by decide) dL_acts_287 ?_
    obtain ⟨o20, ho20, hf⟩ := f_bd hf
    refine v_callLi X [.ref (ad 490), .ref (ad 491), .ref (ad 492), .ref (ad 493), .ref (ad 494), .ref (ad 495), .ref (ad 496), .int (w17 490 ((nI 16) + x10).toNatClampNeg), .int (((nI 16) * x10) + (w17 490 ((nI 20) + x10).toNatClampNeg)), .int (-1 : Int32)] (c_L_arrive X.inj X.ac hL ho20) (va_cwS 10 X.2.2.2.2.1 gL_acts_L_arrive rfl rfl rfl (by decide +kernel) ⟨Nat.le_of_ble_eq_true rfl, Nat.le_of_ble_eq_true rfl⟩) rfl rfl (Nat.le_of_ble_eq_true rfl) ⟨by show _ ≤ 883; omega, by show _ ≤ 7946; omega⟩ dL_acts_288 ?_
    refine v_pop X rfl dL_acts_291 ?_
    refine v_aload_n X 0 dL_acts_292 rfl rfl ?_
    refine v_iload X 8 dL_acts_293 rfl ?_
    obtain ⟨o21, ho21, hf⟩ := f_bd hf
    obtain ⟨w22, ew22, hf⟩ := f_lt hf
    refine v_callCi X hL.n490 [.int x10] (c_X7_write X.inC ho21) (cwV 1 X.2.2.2.2.1 gL_acts_X7_write rfl rfl rfl (by decide +kernel) ⟨Nat.le_of_ble_eq_true rfl, Nat.le_of_ble_eq_true rfl⟩) rfl rfl (Nat.le_of_ble_eq_true rfl) ⟨by show _ ≤ 883; omega, by show _ ≤ 7946; omega⟩ dL_acts_295 ew22 ?_
    refine v_aload_n X 1 dL_acts_298 rfl rfl ?_
    refine v_bipush X (v := (nI 20)) (by decide) dL_acts_299 ?_
    refine v_iload X 8 dL_acts_301 rfl ?_
    refine v_iadd X dL_acts_303 ?_
    obtain ⟨hi23, hf⟩ := f_c hf
    refine v_iald X (lk0 hL) hi23 dL_acts_304 ?_
    refine v_icmp_ne (tgt := 312) X dL_acts_305 (by decide) (fun c => ?_) (fun c => ?_)
    · replace hf := f_t c hf
      refine v_iconst X (v := (nI 0)) (by decide) dL_acts_312 ?_
      refine v_sub [0, 1, 8, 9] rfl ?_
      exact t_L_acts_j313 X Y hL hw1 (by omega) (by omega) hf
    replace hf := f_fn c hf
    refine v_iconst X (v := (nI 1)) (by decide) dL_acts_308 ?_
    refine v_goto (tgt := 313) X dL_acts_309 (by decide) ?_
    refine v_sub [0, 1, 8, 9] rfl ?_
    exact t_L_acts_j313 X Y hL hw1 (by omega) (by omega) hf
  replace hf := f_fn c hf
  refine v_iconst X (v := (nI 1)) (by decide) dL_acts_170 ?_
  exact v_bret X Y (by omega) (by omega) (Eq.trans (by decide : (nI 1) &&& 1 = (nI 1)) (f_p1 hf)) (f_p2 hf) dL_acts_171
set_option maxRecDepth 100000 in
set_option maxHeartbeats 4000000 in
theorem t_L_acts_j424 (X : VX p s m args c cL_acts 24 RL wsL_acts D cI cL cS aC N0 ad0 len0 N ad len) (Y : RX meth (some .boolean)) (hL : LK N len) {s0 : Int32} {s1 : Int32} {w : Wd} {out : Int32 × Wd} (hB1 : cells + 0 ≤ 883) (hB2 : slots + 0 ≤ 7946) (hf : m_L_acts_j424 N s0 s1 w = some out) : VJ p l e rmL_acts s m args below meth c (MQ below (QZi D N0 ad0 (cellL cI cL cS aC len0) out.1 out.2 s.heap.size) args s 883 7946 (AF N0 ad0 s.heap.size)) 24 D cI cL cS aC N0 ad0 N ad len cells slots w 424 [] [.int s1, .int s0] := by
  unfold m_L_acts_j424 at hf
  have hN := hL.1
  refine v_icmp_ne (tgt := 431) X dL_acts_424 (by decide) (fun c => ?_) (fun c => ?_)
  · replace hf := f_t c hf
    refine v_iconst X (v := (nI 0)) (by decide) dL_acts_431 ?_
    exact v_bret X Y (by omega) (by omega) (Eq.trans (by decide : (nI 0) &&& 1 = (nI 0)) (f_p1 hf)) (f_p2 hf) dL_acts_432
  replace hf := f_fn c hf
  refine v_iconst X (v := (nI 1)) (by decide) dL_acts_427 ?_
  refine v_goto (tgt := 432) X dL_acts_428 (by decide) ?_
  exact v_bret X Y (by omega) (by omega) (Eq.trans (by decide : (nI 1) &&& 1 = (nI 1)) (f_p1 hf)) (f_p2 hf) dL_acts_432
set_option maxRecDepth 100000 in
set_option maxHeartbeats 4000000 in
theorem t_L_acts_j393 (X : VX p s m args c cL_acts 24 RL wsL_acts D cI cL cS aC N0 ad0 len0 N ad len) (Y : RX meth (some .boolean)) (hL : LK N len) {x9 : Int32} {s0 : Int32} {w : Wd} {out : Int32 × Wd} (hB1 : cells + 0 ≤ 883) (hB2 : slots + 0 ≤ 7946) (hf : m_L_acts_j393 N x9 s0 w = some out) : VJ p l e rmL_acts s m args below meth c (MQ below (QZi D N0 ad0 (cellL cI cL cS aC len0) out.1 out.2 s.heap.size) args s 883 7946 (AF N0 ad0 s.heap.size)) 24 D cI cL cS aC N0 ad0 N ad len cells slots w 393 [(0, .ref (ad 472)), (1, .ref (ad 490)), (9, .int x9)] [.int s0] := by
  unfold m_L_acts_j393 at hf
  have hN := hL.1
  refine v_istore (lv' := [(0, .ref (ad 472)), (1, .ref (ad 490)), (9, .int x9), (14, .int s0)]) X dL_acts_393 (by decide) rfl ?_
  refine v_aload_n X 0 dL_acts_395 rfl rfl ?_
  refine v_iload X 2 dL_acts_396 rfl ?_
  obtain ⟨o1, ho1, hf⟩ := f_bd hf
  obtain ⟨w2, ew2, hf⟩ := f_lt hf
  refine v_callCi X hL.n490 [.int x9] (c_X7_ask X.inC ho1) (cwV 1 X.2.2.2.2.1 gL_acts_X7_ask rfl rfl rfl (by decide +kernel) ⟨Nat.le_of_ble_eq_true rfl, Nat.le_of_ble_eq_true rfl⟩) rfl rfl (Nat.le_of_ble_eq_true rfl) ⟨by show _ ≤ 883; omega, by show _ ≤ 7946; omega⟩ dL_acts_398 ew2 ?_
  refine v_iload X 2 dL_acts_401 rfl ?_
  refine v_if_ne (tgt := 410) X dL_acts_403 (by decide) (fun c => ?_) (fun c => ?_)
  · replace hf := f_t c hf
    refine v_aload_n X 1 dL_acts_410 rfl rfl ?_
    refine v_bipush X (v := (nI 7)) (by decide) dL_acts_411 ?_
    obtain ⟨hi3, hf⟩ := f_c hf
    refine v_iald X (lk0 hL) hi3 dL_acts_413 ?_
    refine v_if_ne (tgt := 422) X dL_acts_414 (by decide) (fun c => ?_) (fun c => ?_)
    · replace hf := f_t c hf
      refine v_iload X 3 dL_acts_422 rfl ?_
      refine v_sub [] rfl ?_
      exact t_L_acts_j424 X Y hL (by omega) (by omega) hf
    replace hf := f_fn c hf
    refine v_bipush X (v := (-9 : Int32)) (by decide) dL_acts_417 ?_
    refine v_goto (tgt := 424) X dL_acts_419 (by decide) ?_
    refine v_sub [] rfl ?_
    exact t_L_acts_j424 X Y hL (by omega) (by omega) hf
  replace hf := f_fn c hf
  refine v_iconst X (v := (-1 : Int32)) (by decide) dL_acts_406 ?_
  refine v_goto (tgt := 424) X dL_acts_407 (by decide) ?_
  refine v_sub [] rfl ?_
  exact t_L_acts_j424 X Y hL (by omega) (by omega) hf
set_option maxRecDepth 100000 in
set_option maxHeartbeats 4000000 in
theorem t_L_acts_j433 (X : VX p s m args c cL_acts 24 RL wsL_acts D cI cL cS aC N0 ad0 len0 N ad len) (Y : RX meth (some .boolean)) (hL : LK N len) {x8 : Int32} {x9 : Int32} {x10 : Int32} {w : Wd} {out : Int32 × Wd} (hB1 : cells + 3 ≤ 883) (hB2 : slots + 22 ≤ 7946) (hf : m_L_acts_j433 N x8 x9 x10 w = some out) : VJ p l e rmL_acts s m args below meth c (MQ below (QZi D N0 ad0 (cellL cI cL cS aC len0) out.1 out.2 s.heap.size) args s 883 7946 (AF N0 ad0 s.heap.size)) 24 D cI cL cS aC N0 ad0 N ad len cells slots w 433 [(0, .ref (ad 472)), (1, .ref (ad 490)), (2, .ref (ad 491)), (3, .ref (ad 492)), (6, .ref (ad 495)), (7, .ref (ad 496)), (8, .int x8), (9, .int x9), (10, .int x10)] [] := by
  unfold m_L_acts_j433 at hf
  have hN := hL.1
  refine v_aload_n X 0 dL_acts_433 rfl rfl ?_
  refine v_aload_n X 1 dL_acts_434 rfl rfl ?_
  refine v_aload_n X 2 dL_acts_435 rfl rfl ?_
  refine v_aload_n X 3 dL_acts_436 rfl rfl ?_
  refine v_aload X 4 dL_acts_437 rfl ?_
  refine v_aload X 5 dL_acts_439 rfl ?_
  refine v_iload X 7 dL_acts_441 rfl ?_
  refine v_iload X 8 dL_acts_443 rfl ?_
  refine v_iconst X (v := (nI 1)) (by decide) dL_acts_445 ?_
  refine v_iload X 6 dL_acts_446 rfl ?_
  refine v_bipush X (v := (nI 11)) (by decide) dL_acts_448 ?_
  refine v_ishr X dL_acts_450 ?_
  refine v_bipush X (v := (nI 12)) (by decide) dL_acts_451 ?_
  obtain ⟨o1, ho1, hf⟩ := f_bd hf
  refine v_callSiK X [.int (x8 >>> ((nI 11) &&& 31)), .int (nI 12)] (c_L_low X.inj ho1) (va_cwS 2 X.2.2.2.2.1 gL_acts_L_low rfl rfl rfl (by decide +kernel) ⟨Nat.le_of_ble_eq_true rfl, Nat.le_of_ble_eq_true rfl⟩) (Nat.le_of_ble_eq_true rfl) rfl rfl (Nat.le_of_ble_eq_true rfl) ⟨by show _ ≤ 883; omega, by show _ ≤ 7946; omega⟩ dL_acts_453 ?_
  refine v_iadd X dL_acts_456 ?_
  obtain ⟨o2, ho2, hf⟩ := f_bd hf
  refine v_callLi X [.ref (ad 472), .ref (ad 490), .ref (ad 491), .ref (ad 492), .ref (ad 495), .ref (ad 496), .int x9, .int x10, .int ((nI 1) + o1)] (c_L_isRead X.inj X.ac hL ho2) (va_cwS 9 X.2.2.2.2.1 gL_acts_L_isRead rfl rfl rfl (by decide +kernel) ⟨Nat.le_of_ble_eq_true rfl, Nat.le_of_ble_eq_true rfl⟩) rfl rfl (Nat.le_of_ble_eq_true rfl) ⟨by show _ ≤ 883; omega, by show _ ≤ 7946; omega⟩ dL_acts_457 ?_
  exact v_bret X Y (by omega) (by omega) (f_p1 hf) (f_p2 hf) dL_acts_460
set_option maxRecDepth 100000 in
set_option maxHeartbeats 4000000 in
theorem t_L_acts_j535 (X : VX p s m args c cL_acts 24 RL wsL_acts D cI cL cS aC N0 ad0 len0 N ad len) (Y : RX meth (some .boolean)) (hL : LK N len) {s0 : Int32} {s1 : Int32} {w : Wd} {out : Int32 × Wd} (hB1 : cells + 0 ≤ 883) (hB2 : slots + 0 ≤ 7946) (hf : m_L_acts_j535 N s0 s1 w = some out) : VJ p l e rmL_acts s m args below meth c (MQ below (QZi D N0 ad0 (cellL cI cL cS aC len0) out.1 out.2 s.heap.size) args s 883 7946 (AF N0 ad0 s.heap.size)) 24 D cI cL cS aC N0 ad0 N ad len cells slots w 535 [] [.int s1, .int s0] := by
  unfold m_L_acts_j535 at hf
  have hN := hL.1
  refine v_icmp_ne (tgt := 542) X dL_acts_535 (by decide) (fun c => ?_) (fun c => ?_)
  · replace hf := f_t c hf
    refine v_iconst X (v := (nI 0)) (by decide) dL_acts_542 ?_
    exact v_bret X Y (by omega) (by omega) (Eq.trans (by decide : (nI 0) &&& 1 = (nI 0)) (f_p1 hf)) (f_p2 hf) dL_acts_543
  replace hf := f_fn c hf
  refine v_iconst X (v := (nI 1)) (by decide) dL_acts_538 ?_
  refine v_goto (tgt := 543) X dL_acts_539 (by decide) ?_
  exact v_bret X Y (by omega) (by omega) (Eq.trans (by decide : (nI 1) &&& 1 = (nI 1)) (f_p1 hf)) (f_p2 hf) dL_acts_543
set_option maxRecDepth 100000 in
set_option maxHeartbeats 4000000 in
theorem t_L_acts_j514 (X : VX p s m args c cL_acts 24 RL wsL_acts D cI cL cS aC N0 ad0 len0 N ad len) (Y : RX meth (some .boolean)) (hL : LK N len) {x9 : Int32} {x11 : Int32} {x16 : Int32} {w : Wd} {out : Int32 × Wd} (hB1 : cells + 0 ≤ 883) (hB2 : slots + 0 ≤ 7946) (hf : m_L_acts_j514 N x9 x11 x16 w = some out) : VJ p l e rmL_acts s m args below meth c (MQ below (QZi D N0 ad0 (cellL cI cL cS aC len0) out.1 out.2 s.heap.size) args s 883 7946 (AF N0 ad0 s.heap.size)) 24 D cI cL cS aC N0 ad0 N ad len cells slots w 514 [(0, .ref (ad 472)), (9, .int x9), (11, .int x11), (16, .int x16)] [] := by
  unfold m_L_acts_j514 at hf
  have hN := hL.1
  refine v_aload_n X 0 dL_acts_514 rfl rfl ?_
  refine v_iload X 1 dL_acts_515 rfl ?_
  refine v_iload X 3 dL_acts_517 rfl ?_
  refine v_iload X 2 dL_acts_519 rfl ?_
  obtain ⟨o1, ho1, hf⟩ := f_bd hf
  obtain ⟨w2, ew2, hf⟩ := f_lt hf
  refine v_callCi X hL.n490 [.int x9, .int x16, .int x11] (c_X7_lose X.inC ho1) (cwV 3 X.2.2.2.2.1 gL_acts_X7_lose rfl rfl rfl (by decide +kernel) ⟨Nat.le_of_ble_eq_true rfl, Nat.le_of_ble_eq_true rfl⟩) rfl rfl (Nat.le_of_ble_eq_true rfl) ⟨by show _ ≤ 883; omega, by show _ ≤ 7946; omega⟩ dL_acts_521 ew2 ?_
  refine v_iload X 1 dL_acts_524 rfl ?_
  refine v_if_ne (tgt := 533) X dL_acts_526 (by decide) (fun c => ?_) (fun c => ?_)
  · replace hf := f_t c hf
    refine v_bipush X (v := (-2 : Int32)) (by decide) dL_acts_533 ?_
    refine v_sub [] rfl ?_
    exact t_L_acts_j535 X Y hL (by omega) (by omega) hf
  replace hf := f_fn c hf
  refine v_iconst X (v := (-1 : Int32)) (by decide) dL_acts_529 ?_
  refine v_goto (tgt := 535) X dL_acts_530 (by decide) ?_
  refine v_sub [] rfl ?_
  exact t_L_acts_j535 X Y hL (by omega) (by omega) hf
set_option maxRecDepth 100000 in
set_option maxHeartbeats 4000000 in
theorem t_L_acts_j584 {rk1 rk2 : Nat} (X : VX p s m args c cL_acts 24 RL wsL_acts D cI cL cS aC N0 ad0 len0 N ad len) (Y : RX meth (some .boolean)) (hL : LK N len) {q15 : Nat} {x9 : Int32} {x11 : Int32} {x16 : Int32} {s0 : Int32} {s1 : Int32} {w : Wd} {kc : Int32 → Wd → Option (Int32 × Wd)} {kx590 : Int32 → Wd → Option (Int32 × Wd)} {out : Int32 × Wd} (hq15 : RW N len q15 52) (hB1 : cells + (0 + rk1) ≤ 883) (hB2 : slots + (0 + rk2) ≤ 7946) (hX1 : 0 ≤ rk1) (hX2 : 0 ≤ rk2) (hf : m_L_acts_j584 N q15 x9 x11 x16 s0 s1 w kc kx590 = some out) (hk_kc : ∀ (cells slots : Nat) (y17 : Int32) (v : Wd), cells + rk1 ≤ 883 → slots + rk2 ≤ 7946 → kc y17 v = some out → VJ p l e rmL_acts s m args below meth c (MQ below (QZi D N0 ad0 (cellL cI cL cS aC len0) out.1 out.2 s.heap.size) args s 883 7946 (AF N0 ad0 s.heap.size)) 24 D cI cL cS aC N0 ad0 N ad len cells slots v 547 [(0, .ref (ad 472)), (1, .ref (ad 490)), (9, .int x9), (11, .int x11), (15, .ref (ad q15)), (16, .int x16), (17, .int y17)] []) (hk_kx590 : ∀ (cells slots : Nat) (y17 : Int32) (v : Wd), cells + 0 ≤ 883 → slots + 0 ≤ 7946 → kx590 y17 v = some out → VJ p l e rmL_acts s m args below meth c (MQ below (QZi D N0 ad0 (cellL cI cL cS aC len0) out.1 out.2 s.heap.size) args s 883 7946 (AF N0 ad0 s.heap.size)) 24 D cI cL cS aC N0 ad0 N ad len cells slots v 590 [(0, .ref (ad 472)), (1, .ref (ad 490)), (9, .int x9), (11, .int x11), (16, .int x16), (17, .int y17)] []) : VJ p l e rmL_acts s m args below meth c (MQ below (QZi D N0 ad0 (cellL cI cL cS aC len0) out.1 out.2 s.heap.size) args s 883 7946 (AF N0 ad0 s.heap.size)) 24 D cI cL cS aC N0 ad0 N ad len cells slots w 584 [(0, .ref (ad 472)), (1, .ref (ad 490)), (9, .int x9), (11, .int x11), (15, .ref (ad q15)), (16, .int x16)] [.int s1, .int s0] := by
  unfold m_L_acts_j584 at hf
  have hN := hL.1
  refine v_iadd X dL_acts_584 ?_
  obtain ⟨x17_1, ex17_1, hf⟩ := f_lt hf
  refine v_top ex17_1 ?_
  refine v_istore (lv' := [(0, .ref (ad 472)), (1, .ref (ad 490)), (9, .int x9), (11, .int x11), (15, .ref (ad q15)), (16, .int x16), (17, .int x17_1)]) X dL_acts_585 (by decide) rfl ?_
  refine v_goto (tgt := 547) X dL_acts_587 (by decide) ?_
  exact hk_kc _ _ _ _ (by omega) (by omega) hf
set_option maxRecDepth 100000 in
set_option maxHeartbeats 4000000 in
theorem t_L_acts_L547 (X : VX p s m args c cL_acts 24 RL wsL_acts D cI cL cS aC N0 ad0 len0 N ad len) (Y : RX meth (some .boolean)) (hL : LK N len) {q15 : Nat} {x9 : Int32} {x11 : Int32} {x16 : Int32} {kx590 : Int32 → Wd → Option (Int32 × Wd)} {out : Int32 × Wd} (hq15 : RW N len q15 52) (hk_kx590 : ∀ (cells slots : Nat) (y17 : Int32) (v : Wd), cells + 0 ≤ 883 → slots + 0 ≤ 7946 → kx590 y17 v = some out → VJ p l e rmL_acts s m args below meth c (MQ below (QZi D N0 ad0 (cellL cI cL cS aC len0) out.1 out.2 s.heap.size) args s 883 7946 (AF N0 ad0 s.heap.size)) 24 D cI cL cS aC N0 ad0 N ad len cells slots v 590 [(0, .ref (ad 472)), (1, .ref (ad 490)), (9, .int x9), (11, .int x11), (16, .int x16), (17, .int y17)] []) : ∀ (n : Nat) (cells slots : Nat) (x17 : Int32) (w : Wd), cells + (n * 0 + 0) ≤ 883 → slots + (n * 0 + 0) ≤ 7946 → m_L_acts_L547 N q15 x9 x11 x16 kx590 n x17 w = some out → VJ p l e rmL_acts s m args below meth c (MQ below (QZi D N0 ad0 (cellL cI cL cS aC len0) out.1 out.2 s.heap.size) args s 883 7946 (AF N0 ad0 s.heap.size)) 24 D cI cL cS aC N0 ad0 N ad len cells slots w 547 [(0, .ref (ad 472)), (1, .ref (ad 490)), (9, .int x9), (11, .int x11), (15, .ref (ad q15)), (16, .int x16), (17, .int x17)] [] := by
  intro n
  induction n with
  | zero => intro cells slots x17 w hB1 hB2 hf; exact f_n hf
  | succ n ih =>
    intro cells slots x17 w hB1 hB2 hf
    rw [m_L_acts_L547] at hf
    have hN := hL.1
    refine v_iload X 6 dL_acts_547 rfl ?_
    refine v_iload X 3 dL_acts_549 rfl ?_
    refine v_icmp_ge (tgt := 590) X dL_acts_551 (by decide) (fun c => ?_) (fun c => ?_)
    · replace hf := f_t c hf
      refine v_sub [0, 1, 2, 3, 5, 6] rfl ?_
      exact hk_kx590 _ _ _ _ (by omega) (by omega) hf
    replace hf := f_f c hf
    refine v_aload X 4 dL_acts_554 rfl ?_
    refine v_bipush X (v := (nI 13)) (by decide) dL_acts_556 ?_
    refine v_iload X 2 dL_acts_558 rfl ?_
    refine v_iconst X (v := (nI 1)) (by decide) dL_acts_560 ?_
    refine v_isub X dL_acts_561 ?_
    refine v_imul X dL_acts_562 ?_
    obtain ⟨hi1, hf⟩ := f_c hf
    refine v_iald X hq15 hi1 dL_acts_563 ?_
    refine v_if_le (tgt := 590) X dL_acts_564 (by decide) (fun c => ?_) (fun c => ?_)
    · replace hf := f_t c hf
      refine v_sub [0, 1, 2, 3, 5, 6] rfl ?_
      exact hk_kx590 _ _ _ _ (by omega) (by omega) hf
    replace hf := f_f c hf
    refine v_iload X 6 dL_acts_567 rfl ?_
    refine v_aload X 4 dL_acts_569 rfl ?_
    refine v_iload X 2 dL_acts_571 rfl ?_
    obtain ⟨o2, ho2, hf⟩ := f_bd hf
    refine v_callSi X [.ref (ad q15), .int x9] (c_L_take X.inj (RW.i hq15) ho2) (va_cwS 2 X.2.2.2.2.1 gL_acts_L_take rfl rfl rfl (by decide +kernel) ⟨Nat.le_of_ble_eq_true rfl, Nat.le_of_ble_eq_true rfl⟩) rfl rfl (Nat.le_of_ble_eq_true rfl) ⟨by show _ ≤ 883; omega, by show _ ≤ 7946; omega⟩ dL_acts_573 ?_
    refine v_if_le (tgt := 583) X dL_acts_576 (by decide) (fun c => ?_) (fun c => ?_)
    · replace hf := f_t c hf
      refine v_iconst X (v := (nI 0)) (by decide) dL_acts_583 ?_
      refine v_sub [0, 1, 2, 3, 4, 5] rfl ?_
      exact t_L_acts_j584 (rk1 := (n * 0 + 0)) (rk2 := (n * 0 + 0)) X Y hL hq15 (by omega) (by omega) (by omega) (by omega) hf ih hk_kx590
    replace hf := f_f c hf
    refine v_iconst X (v := (nI 1)) (by decide) dL_acts_579 ?_
    refine v_goto (tgt := 584) X dL_acts_580 (by decide) ?_
    refine v_sub [0, 1, 2, 3, 4, 5] rfl ?_
    exact t_L_acts_j584 (rk1 := (n * 0 + 0)) (rk2 := (n * 0 + 0)) X Y hL hq15 (by omega) (by omega) (by omega) (by omega) hf ih hk_kx590
set_option maxRecDepth 100000 in
set_option maxHeartbeats 4000000 in
theorem t_L_acts_j590 (X : VX p s m args c cL_acts 24 RL wsL_acts D cI cL cS aC N0 ad0 len0 N ad len) (Y : RX meth (some .boolean)) (hL : LK N len) {x9 : Int32} {x11 : Int32} {x16 : Int32} {x17 : Int32} {w : Wd} {out : Int32 × Wd} (hB1 : cells + 0 ≤ 883) (hB2 : slots + 0 ≤ 7946) (hf : m_L_acts_j590 N x9 x11 x16 x17 w = some out) : VJ p l e rmL_acts s m args below meth c (MQ below (QZi D N0 ad0 (cellL cI cL cS aC len0) out.1 out.2 s.heap.size) args s 883 7946 (AF N0 ad0 s.heap.size)) 24 D cI cL cS aC N0 ad0 N ad len cells slots w 590 [(0, .ref (ad 472)), (1, .ref (ad 490)), (9, .int x9), (11, .int x11), (16, .int x16), (17, .int x17)] [] := by
  unfold m_L_acts_j590 at hf
  have hN := hL.1
  refine v_aload_n X 1 dL_acts_590 rfl rfl ?_
  refine v_iconst X (v := (nI 5)) (by decide) dL_acts_591 ?_
  refine v_dup2 X rfl rfl dL_acts_592 ?_
  obtain ⟨hi1, hf⟩ := f_c hf
  refine v_iald X (lk0 hL) hi1 dL_acts_593 ?_
  refine v_iload X 5 dL_acts_594 rfl ?_
  refine v_iadd X dL_acts_596 ?_
  obtain ⟨hi2, hf⟩ := f_c hf
  obtain ⟨w3, ew3, hf⟩ := f_lt hf
  refine v_iast X (lk0 hL) hi2 dL_acts_597 ew3 ?_
  refine v_aload_n X 0 dL_acts_598 rfl rfl ?_
  refine v_iload X 2 dL_acts_599 rfl ?_
  refine v_iload X 4 dL_acts_601 rfl ?_
  refine v_iload X 3 dL_acts_603 rfl ?_
  obtain ⟨o4, ho4, hf⟩ := f_bd hf
  obtain ⟨w5, ew5, hf⟩ := f_lt hf
  refine v_callCi X hL.n490 [.int x9, .int x16, .int x11] (c_X7_lose X.inC ho4) (cwV 3 X.2.2.2.2.1 gL_acts_X7_lose rfl rfl rfl (by decide +kernel) ⟨Nat.le_of_ble_eq_true rfl, Nat.le_of_ble_eq_true rfl⟩) rfl rfl (Nat.le_of_ble_eq_true rfl) ⟨by show _ ≤ 883; omega, by show _ ≤ 7946; omega⟩ dL_acts_605 ew5 ?_
  refine v_iload X 5 dL_acts_608 rfl ?_
  refine v_icmp_ne (tgt := 617) X dL_acts_610 (by decide) (fun c => ?_) (fun c => ?_)
  · replace hf := f_t c hf
    refine v_iconst X (v := (nI 0)) (by decide) dL_acts_617 ?_
    exact v_bret X Y (by omega) (by omega) (Eq.trans (by decide : (nI 0) &&& 1 = (nI 0)) (f_p1 hf)) (f_p2 hf) dL_acts_618
  replace hf := f_fn c hf
  refine v_iconst X (v := (nI 1)) (by decide) dL_acts_613 ?_
  refine v_goto (tgt := 618) X dL_acts_614 (by decide) ?_
  exact v_bret X Y (by omega) (by omega) (Eq.trans (by decide : (nI 1) &&& 1 = (nI 1)) (f_p1 hf)) (f_p2 hf) dL_acts_618
set_option maxRecDepth 100000 in
set_option maxHeartbeats 4000000 in
theorem t_L_acts_j494 (X : VX p s m args c cL_acts 24 RL wsL_acts D cI cL cS aC N0 ad0 len0 N ad len) (Y : RX meth (some .boolean)) (hL : LK N len) {q15 : Nat} {x9 : Int32} {x11 : Int32} {s0 : Int32} {w : Wd} {out : Int32 × Wd} (hq15 : RW N len q15 52) (hB1 : cells + 0 ≤ 883) (hB2 : slots + 0 ≤ 7946) (hf : m_L_acts_j494 N q15 x9 x11 s0 w = some out) : VJ p l e rmL_acts s m args below meth c (MQ below (QZi D N0 ad0 (cellL cI cL cS aC len0) out.1 out.2 s.heap.size) args s 883 7946 (AF N0 ad0 s.heap.size)) 24 D cI cL cS aC N0 ad0 N ad len cells slots w 494 [(0, .ref (ad 472)), (1, .ref (ad 490)), (9, .int x9), (11, .int x11), (15, .ref (ad q15))] [.int s0] := by
  unfold m_L_acts_j494 at hf
  have hN := hL.1
  refine v_istore (lv' := [(0, .ref (ad 472)), (1, .ref (ad 490)), (9, .int x9), (11, .int x11), (15, .ref (ad q15)), (16, .int s0)]) X dL_acts_494 (by decide) rfl ?_
  refine v_iload X 2 dL_acts_496 rfl ?_
  refine v_if_eq (tgt := 514) X dL_acts_498 (by decide) (fun c => ?_) (fun c => ?_)
  · replace hf := f_t c hf
    refine v_sub [0, 2, 3, 5] rfl ?_
    exact t_L_acts_j514 X Y hL (by omega) (by omega) hf
  replace hf := f_f c hf
  refine v_aload X 4 dL_acts_501 rfl ?_
  refine v_bipush X (v := (nI 13)) (by decide) dL_acts_503 ?_
  refine v_iload X 2 dL_acts_505 rfl ?_
  refine v_iconst X (v := (nI 1)) (by decide) dL_acts_507 ?_
  refine v_isub X dL_acts_508 ?_
  refine v_imul X dL_acts_509 ?_
  obtain ⟨hi1, hf⟩ := f_c hf
  refine v_iald X hq15 hi1 dL_acts_510 ?_
  refine v_if_ne (tgt := 544) X dL_acts_511 (by decide) (fun c => ?_) (fun c => ?_)
  · replace hf := f_t c hf
    refine v_iconst X (v := (nI 0)) (by decide) dL_acts_544 ?_
    refine v_istore (lv' := [(0, .ref (ad 472)), (1, .ref (ad 490)), (9, .int x9), (11, .int x11), (15, .ref (ad q15)), (16, .int s0), (17, .int (nI 0))]) X dL_acts_545 (by decide) rfl ?_
    refine t_L_acts_L547 X Y hL hq15 ?_ _ _ _ _ _ ?_ ?_ hf
    · intro cells slots x17_2 w3 hB1 hB2 hf
      exact t_L_acts_j590 X Y hL (by omega) (by omega) hf
    · have hFU : FU * 0 = 0 := rfl; omega
    · have hFU : FU * 0 = 0 := rfl; omega
  replace hf := f_fn c hf
  refine v_sub [0, 2, 3, 5] rfl ?_
  exact t_L_acts_j514 X Y hL (by omega) (by omega) hf
set_option maxRecDepth 100000 in
set_option maxHeartbeats 4000000 in
theorem t_L_acts_j480 (X : VX p s m args c cL_acts 24 RL wsL_acts D cI cL cS aC N0 ad0 len0 N ad len) (Y : RX meth (some .boolean)) (hL : LK N len) {r0 : Nat} {x9 : Int32} {x11 : Int32} {w : Wd} {out : Int32 × Wd} (hr0 : RW N len r0 52) (hB1 : cells + 0 ≤ 883) (hB2 : slots + 0 ≤ 7946) (hf : m_L_acts_j480 N r0 x9 x11 w = some out) : VJ p l e rmL_acts s m args below meth c (MQ below (QZi D N0 ad0 (cellL cI cL cS aC len0) out.1 out.2 s.heap.size) args s 883 7946 (AF N0 ad0 s.heap.size)) 24 D cI cL cS aC N0 ad0 N ad len cells slots w 480 [(0, .ref (ad 472)), (1, .ref (ad 490)), (4, .ref (ad 493)), (9, .int x9), (11, .int x11)] [.ref (ad r0)] := by
  unfold m_L_acts_j480 at hf
  have hN := hL.1
  refine v_astore (lv' := [(0, .ref (ad 472)), (1, .ref (ad 490)), (4, .ref (ad 493)), (9, .int x9), (11, .int x11), (15, .ref (ad r0))]) X dL_acts_480 (by decide) rfl ?_
  refine v_aload X 5 dL_acts_482 rfl ?_
  refine v_aload X 2 dL_acts_484 rfl ?_
  refine v_acmp_ne X (hr0).2.1 ((lk3 hL)).2.1 (tgt := 493) dL_acts_486 (by decide) (fun c => ?_) (fun c => ?_)
  · replace hf := f_t c hf
    refine v_iconst X (v := (nI 1)) (by decide) dL_acts_493 ?_
    refine v_sub [0, 1, 3, 4, 5] rfl ?_
    exact t_L_acts_j494 X Y hL hr0 (by omega) (by omega) hf
  replace hf := f_fn c hf
  refine v_iconst X (v := (nI 0)) (by decide) dL_acts_489 ?_
  refine v_goto (tgt := 494) X dL_acts_490 (by decide) ?_
  refine v_sub [0, 1, 3, 4, 5] rfl ?_
  exact t_L_acts_j494 X Y hL hr0 (by omega) (by omega) hf
set_option maxRecDepth 100000 in
set_option maxHeartbeats 4000000 in
theorem t_L_acts_j693 (X : VX p s m args c cL_acts 24 RL wsL_acts D cI cL cS aC N0 ad0 len0 N ad len) (Y : RX meth (some .boolean)) (hL : LK N len) {s0 : Int32} {s1 : Int32} {w : Wd} {out : Int32 × Wd} (hB1 : cells + 0 ≤ 883) (hB2 : slots + 0 ≤ 7946) (hf : m_L_acts_j693 N s0 s1 w = some out) : VJ p l e rmL_acts s m args below meth c (MQ below (QZi D N0 ad0 (cellL cI cL cS aC len0) out.1 out.2 s.heap.size) args s 883 7946 (AF N0 ad0 s.heap.size)) 24 D cI cL cS aC N0 ad0 N ad len cells slots w 693 [] [.int s1, .int s0] := by
  unfold m_L_acts_j693 at hf
  have hN := hL.1
  refine v_icmp_ne (tgt := 700) X dL_acts_693 (by decide) (fun c => ?_) (fun c => ?_)
  · replace hf := f_t c hf
    refine v_iconst X (v := (nI 0)) (by decide) dL_acts_700 ?_
    exact v_bret X Y (by omega) (by omega) (Eq.trans (by decide : (nI 0) &&& 1 = (nI 0)) (f_p1 hf)) (f_p2 hf) dL_acts_701
  replace hf := f_fn c hf
  refine v_iconst X (v := (nI 1)) (by decide) dL_acts_696 ?_
  refine v_goto (tgt := 701) X dL_acts_697 (by decide) ?_
  exact v_bret X Y (by omega) (by omega) (Eq.trans (by decide : (nI 1) &&& 1 = (nI 1)) (f_p1 hf)) (f_p2 hf) dL_acts_701
set_option maxRecDepth 100000 in
set_option maxHeartbeats 4000000 in
theorem t_L_acts_j672 (X : VX p s m args c cL_acts 24 RL wsL_acts D cI cL cS aC N0 ad0 len0 N ad len) (Y : RX meth (some .boolean)) (hL : LK N len) {x9 : Int32} {x11 : Int32} {x19 : Int32} {w : Wd} {out : Int32 × Wd} (hB1 : cells + 0 ≤ 883) (hB2 : slots + 0 ≤ 7946) (hf : m_L_acts_j672 N x9 x11 x19 w = some out) : VJ p l e rmL_acts s m args below meth c (MQ below (QZi D N0 ad0 (cellL cI cL cS aC len0) out.1 out.2 s.heap.size) args s 883 7946 (AF N0 ad0 s.heap.size)) 24 D cI cL cS aC N0 ad0 N ad len cells slots w 672 [(0, .ref (ad 472)), (9, .int x9), (11, .int x11), (19, .int x19)] [] := by
  unfold m_L_acts_j672 at hf
  have hN := hL.1
  refine v_aload_n X 0 dL_acts_672 rfl rfl ?_
  refine v_iload X 1 dL_acts_673 rfl ?_
  refine v_iload X 3 dL_acts_675 rfl ?_
  refine v_iload X 2 dL_acts_677 rfl ?_
  obtain ⟨o1, ho1, hf⟩ := f_bd hf
  obtain ⟨w2, ew2, hf⟩ := f_lt hf
  refine v_callCi X hL.n490 [.int x9, .int x19, .int x11] (c_X7_deliver X.inC ho1) (cwV 3 X.2.2.2.2.1 gL_acts_X7_deliver rfl rfl rfl (by decide +kernel) ⟨Nat.le_of_ble_eq_true rfl, Nat.le_of_ble_eq_true rfl⟩) rfl rfl (Nat.le_of_ble_eq_true rfl) ⟨by show _ ≤ 883; omega, by show _ ≤ 7946; omega⟩ dL_acts_679 ew2 ?_
  refine v_iload X 1 dL_acts_682 rfl ?_
  refine v_if_ne (tgt := 691) X dL_acts_684 (by decide) (fun c => ?_) (fun c => ?_)
  · replace hf := f_t c hf
    refine v_bipush X (v := (-2 : Int32)) (by decide) dL_acts_691 ?_
    refine v_sub [] rfl ?_
    exact t_L_acts_j693 X Y hL (by omega) (by omega) hf
  replace hf := f_fn c hf
  refine v_iconst X (v := (-1 : Int32)) (by decide) dL_acts_687 ?_
  refine v_goto (tgt := 693) X dL_acts_688 (by decide) ?_
  refine v_sub [] rfl ?_
  exact t_L_acts_j693 X Y hL (by omega) (by omega) hf
set_option maxRecDepth 100000 in
set_option maxHeartbeats 4000000 in
theorem t_L_acts_j801 {rk1 rk2 : Nat} (X : VX p s m args c cL_acts 24 RL wsL_acts D cI cL cS aC N0 ad0 len0 N ad len) (Y : RX meth (some .boolean)) (hL : LK N len) {q18 : Nat} {x9 : Int32} {x11 : Int32} {x19 : Int32} {x21 : Int32} {s0 : Int32} {s1 : Int32} {w : Wd} {kc : Int32 → Int32 → Wd → Option (Int32 × Wd)} {kx810 : Int32 → Wd → Option (Int32 × Wd)} {out : Int32 × Wd} (hq18 : RW N len q18 52) (hB1 : cells + (0 + rk1) ≤ 883) (hB2 : slots + (0 + rk2) ≤ 7946) (hX1 : 0 ≤ rk1) (hX2 : 0 ≤ rk2) (hf : m_L_acts_j801 N q18 x9 x11 x19 x21 s0 s1 w kc kx810 = some out) (hk_kc : ∀ (cells slots : Nat) (y20 : Int32) (y21 : Int32) (v : Wd), cells + rk1 ≤ 883 → slots + rk2 ≤ 7946 → kc y20 y21 v = some out → VJ p l e rmL_acts s m args below meth c (MQ below (QZi D N0 ad0 (cellL cI cL cS aC len0) out.1 out.2 s.heap.size) args s 883 7946 (AF N0 ad0 s.heap.size)) 24 D cI cL cS aC N0 ad0 N ad len cells slots v 708 [(0, .ref (ad 472)), (1, .ref (ad 490)), (2, .ref (ad 491)), (3, .ref (ad 492)), (4, .ref (ad 493)), (5, .ref (ad 494)), (6, .ref (ad 495)), (7, .ref (ad 496)), (9, .int x9), (11, .int x11), (18, .ref (ad q18)), (19, .int x19), (20, .int y20), (21, .int y21)] []) (hk_kx810 : ∀ (cells slots : Nat) (y20 : Int32) (v : Wd), cells + 0 ≤ 883 → slots + 0 ≤ 7946 → kx810 y20 v = some out → VJ p l e rmL_acts s m args below meth c (MQ below (QZi D N0 ad0 (cellL cI cL cS aC len0) out.1 out.2 s.heap.size) args s 883 7946 (AF N0 ad0 s.heap.size)) 24 D cI cL cS aC N0 ad0 N ad len cells slots v 810 [(0, .ref (ad 472)), (9, .int x9), (11, .int x11), (19, .int x19), (20, .int y20)] []) : VJ p l e rmL_acts s m args below meth c (MQ below (QZi D N0 ad0 (cellL cI cL cS aC len0) out.1 out.2 s.heap.size) args s 883 7946 (AF N0 ad0 s.heap.size)) 24 D cI cL cS aC N0 ad0 N ad len cells slots w 801 [(0, .ref (ad 472)), (1, .ref (ad 490)), (2, .ref (ad 491)), (3, .ref (ad 492)), (4, .ref (ad 493)), (5, .ref (ad 494)), (6, .ref (ad 495)), (7, .ref (ad 496)), (9, .int x9), (11, .int x11), (18, .ref (ad q18)), (19, .int x19), (21, .int x21)] [.int s1, .int s0] := by
  unfold m_L_acts_j801 at hf
  have hN := hL.1
  refine v_iadd X dL_acts_801 ?_
  obtain ⟨x20_1, ex20_1, hf⟩ := f_lt hf
  refine v_top ex20_1 ?_
  refine v_istore (lv' := [(0, .ref (ad 472)), (1, .ref (ad 490)), (2, .ref (ad 491)), (3, .ref (ad 492)), (4, .ref (ad 493)), (5, .ref (ad 494)), (6, .ref (ad 495)), (7, .ref (ad 496)), (9, .int x9), (11, .int x11), (18, .ref (ad q18)), (19, .int x19), (20, .int x20_1), (21, .int x21)]) X dL_acts_802 (by decide) rfl ?_
  refine v_iinc (v := (x21 + (nI 1))) (lv' := [(0, .ref (ad 472)), (1, .ref (ad 490)), (2, .ref (ad 491)), (3, .ref (ad 492)), (4, .ref (ad 493)), (5, .ref (ad 494)), (6, .ref (ad 495)), (7, .ref (ad 496)), (9, .int x9), (11, .int x11), (18, .ref (ad q18)), (19, .int x19), (20, .int x20_1), (21, .int (x21 + (nI 1)))]) X 13 dL_acts_804 rfl rfl (by decide) rfl ?_
  refine v_goto (tgt := 708) X dL_acts_807 (by decide) ?_
  exact hk_kc _ _ _ _ _ (by omega) (by omega) hf
set_option maxRecDepth 100000 in
set_option maxHeartbeats 4000000 in
theorem t_L_acts_j790 {rk1 rk2 : Nat} (X : VX p s m args c cL_acts 24 RL wsL_acts D cI cL cS aC N0 ad0 len0 N ad len) (Y : RX meth (some .boolean)) (hL : LK N len) {q18 : Nat} {x9 : Int32} {x11 : Int32} {x19 : Int32} {x21 : Int32} {s0 : Int32} {s8 : Int32} {s9 : Int32} {s10 : Int32} {w : Wd} {kc : Int32 → Int32 → Wd → Option (Int32 × Wd)} {kx810 : Int32 → Wd → Option (Int32 × Wd)} {out : Int32 × Wd} (hq18 : RW N len q18 52) (hB1 : cells + (2 + rk1) ≤ 883) (hB2 : slots + (18 + rk2) ≤ 7946) (hX1 : 0 ≤ rk1) (hX2 : 0 ≤ rk2) (hf : m_L_acts_j790 N q18 x9 x11 x19 x21 s0 s8 s9 s10 w kc kx810 = some out) (hk_kc : ∀ (cells slots : Nat) (y20 : Int32) (y21 : Int32) (v : Wd), cells + rk1 ≤ 883 → slots + rk2 ≤ 7946 → kc y20 y21 v = some out → VJ p l e rmL_acts s m args below meth c (MQ below (QZi D N0 ad0 (cellL cI cL cS aC len0) out.1 out.2 s.heap.size) args s 883 7946 (AF N0 ad0 s.heap.size)) 24 D cI cL cS aC N0 ad0 N ad len cells slots v 708 [(0, .ref (ad 472)), (1, .ref (ad 490)), (2, .ref (ad 491)), (3, .ref (ad 492)), (4, .ref (ad 493)), (5, .ref (ad 494)), (6, .ref (ad 495)), (7, .ref (ad 496)), (9, .int x9), (11, .int x11), (18, .ref (ad q18)), (19, .int x19), (20, .int y20), (21, .int y21)] []) (hk_kx810 : ∀ (cells slots : Nat) (y20 : Int32) (v : Wd), cells + 0 ≤ 883 → slots + 0 ≤ 7946 → kx810 y20 v = some out → VJ p l e rmL_acts s m args below meth c (MQ below (QZi D N0 ad0 (cellL cI cL cS aC len0) out.1 out.2 s.heap.size) args s 883 7946 (AF N0 ad0 s.heap.size)) 24 D cI cL cS aC N0 ad0 N ad len cells slots v 810 [(0, .ref (ad 472)), (9, .int x9), (11, .int x11), (19, .int x19), (20, .int y20)] []) : VJ p l e rmL_acts s m args below meth c (MQ below (QZi D N0 ad0 (cellL cI cL cS aC len0) out.1 out.2 s.heap.size) args s 883 7946 (AF N0 ad0 s.heap.size)) 24 D cI cL cS aC N0 ad0 N ad len cells slots w 790 [(0, .ref (ad 472)), (1, .ref (ad 490)), (2, .ref (ad 491)), (3, .ref (ad 492)), (4, .ref (ad 493)), (5, .ref (ad 494)), (6, .ref (ad 495)), (7, .ref (ad 496)), (9, .int x9), (11, .int x11), (18, .ref (ad q18)), (19, .int x19), (21, .int x21)] [.int s10, .int s9, .int s8, .ref (ad 496), .ref (ad 495), .ref (ad 494), .ref (ad 493), .ref (ad 492), .ref (ad 491), .ref (ad 490), .int s0] := by
  unfold m_L_acts_j790 at hf
  have hN := hL.1
  obtain ⟨o1, ho1, hf⟩ := f_bd hf
  refine v_callLi X [.ref (ad 490), .ref (ad 491), .ref (ad 492), .ref (ad 493), .ref (ad 494), .ref (ad 495), .ref (ad 496), .int s8, .int s9, .int s10] (c_L_arrive X.inj X.ac hL ho1) (va_cwS 10 X.2.2.2.2.1 gL_acts_L_arrive rfl rfl rfl (by decide +kernel) ⟨Nat.le_of_ble_eq_true rfl, Nat.le_of_ble_eq_true rfl⟩) rfl rfl (Nat.le_of_ble_eq_true rfl) ⟨by show _ ≤ 883; omega, by show _ ≤ 7946; omega⟩ dL_acts_790 ?_
  refine v_if_le (tgt := 800) X dL_acts_793 (by decide) (fun c => ?_) (fun c => ?_)
  · replace hf := f_t c hf
    refine v_iconst X (v := (nI 0)) (by decide) dL_acts_800 ?_
    exact t_L_acts_j801 (rk1 := rk1) (rk2 := rk2) X Y hL hq18 (by omega) (by omega) (by omega) (by omega) hf hk_kc hk_kx810
  replace hf := f_f c hf
  refine v_iconst X (v := (nI 1)) (by decide) dL_acts_796 ?_
  refine v_goto (tgt := 801) X dL_acts_797 (by decide) ?_
  exact t_L_acts_j801 (rk1 := rk1) (rk2 := rk2) X Y hL hq18 (by omega) (by omega) (by omega) (by omega) hf hk_kc hk_kx810
set_option maxRecDepth 100000 in
set_option maxHeartbeats 4000000 in
theorem t_L_acts_j754 {rk1 rk2 : Nat} (X : VX p s m args c cL_acts 24 RL wsL_acts D cI cL cS aC N0 ad0 len0 N ad len) (Y : RX meth (some .boolean)) (hL : LK N len) {q18 : Nat} {x9 : Int32} {x11 : Int32} {x19 : Int32} {x20 : Int32} {x21 : Int32} {x22 : Int32} {s0 : Int32} {w : Wd} {kc : Int32 → Int32 → Wd → Option (Int32 × Wd)} {kx810 : Int32 → Wd → Option (Int32 × Wd)} {out : Int32 × Wd} (hq18 : RW N len q18 52) (hB1 : cells + (2 + rk1) ≤ 883) (hB2 : slots + (18 + rk2) ≤ 7946) (hX1 : 0 ≤ rk1) (hX2 : 0 ≤ rk2) (hf : m_L_acts_j754 N q18 x9 x11 x19 x20 x21 x22 s0 w kc kx810 = some out) (hk_kc : ∀ (cells slots : Nat) (y20 : Int32) (y21 : Int32) (v : Wd), cells + rk1 ≤ 883 → slots + rk2 ≤ 7946 → kc y20 y21 v = some out → VJ p l e rmL_acts s m args below meth c (MQ below (QZi D N0 ad0 (cellL cI cL cS aC len0) out.1 out.2 s.heap.size) args s 883 7946 (AF N0 ad0 s.heap.size)) 24 D cI cL cS aC N0 ad0 N ad len cells slots v 708 [(0, .ref (ad 472)), (1, .ref (ad 490)), (2, .ref (ad 491)), (3, .ref (ad 492)), (4, .ref (ad 493)), (5, .ref (ad 494)), (6, .ref (ad 495)), (7, .ref (ad 496)), (9, .int x9), (11, .int x11), (18, .ref (ad q18)), (19, .int x19), (20, .int y20), (21, .int y21)] []) (hk_kx810 : ∀ (cells slots : Nat) (y20 : Int32) (v : Wd), cells + 0 ≤ 883 → slots + 0 ≤ 7946 → kx810 y20 v = some out → VJ p l e rmL_acts s m args below meth c (MQ below (QZi D N0 ad0 (cellL cI cL cS aC len0) out.1 out.2 s.heap.size) args s 883 7946 (AF N0 ad0 s.heap.size)) 24 D cI cL cS aC N0 ad0 N ad len cells slots v 810 [(0, .ref (ad 472)), (9, .int x9), (11, .int x11), (19, .int x19), (20, .int y20)] []) : VJ p l e rmL_acts s m args below meth c (MQ below (QZi D N0 ad0 (cellL cI cL cS aC len0) out.1 out.2 s.heap.size) args s 883 7946 (AF N0 ad0 s.heap.size)) 24 D cI cL cS aC N0 ad0 N ad len cells slots w 754 [(0, .ref (ad 472)), (1, .ref (ad 490)), (2, .ref (ad 491)), (3, .ref (ad 492)), (4, .ref (ad 493)), (5, .ref (ad 494)), (6, .ref (ad 495)), (7, .ref (ad 496)), (9, .int x9), (11, .int x11), (18, .ref (ad q18)), (19, .int x19), (20, .int x20), (21, .int x21), (22, .int x22)] [.int s0] := by
  unfold m_L_acts_j754 at hf
  have hN := hL.1
  refine v_istore (lv' := [(0, .ref (ad 472)), (1, .ref (ad 490)), (2, .ref (ad 491)), (3, .ref (ad 492)), (4, .ref (ad 493)), (5, .ref (ad 494)), (6, .ref (ad 495)), (7, .ref (ad 496)), (9, .int x9), (11, .int x11), (18, .ref (ad q18)), (19, .int x19), (20, .int x20), (21, .int x21), (22, .int x22), (23, .int s0)]) X dL_acts_754 (by decide) rfl ?_
  refine v_iload X 12 dL_acts_756 rfl ?_
  refine v_aload_n X 1 dL_acts_758 rfl rfl ?_
  refine v_aload_n X 2 dL_acts_759 rfl rfl ?_
  refine v_aload_n X 3 dL_acts_760 rfl rfl ?_
  refine v_aload X 4 dL_acts_761 rfl ?_
  refine v_aload X 5 dL_acts_763 rfl ?_
  refine v_aload X 6 dL_acts_765 rfl ?_
  refine v_aload X 7 dL_acts_767 rfl ?_
  refine v_iload X 15 dL_acts_769 rfl ?_
  refine v_iload X 14 dL_acts_771 rfl ?_
  refine v_iload X 11 dL_acts_773 rfl ?_
  refine v_if_ne (tgt := 783) X dL_acts_775 (by decide) (fun c => ?_) (fun c => ?_)
  · replace hf := f_t c hf
    refine v_aload_n X 1 dL_acts_783 rfl rfl ?_
    refine v_bipush X (v := (nI 8)) (by decide) dL_acts_784 ?_
    refine v_iload X 8 dL_acts_786 rfl ?_
    refine v_iadd X dL_acts_788 ?_
    obtain ⟨hi1, hf⟩ := f_c hf
    refine v_iald X (lk0 hL) hi1 dL_acts_789 ?_
    refine v_sub [0, 1, 2, 3, 4, 5, 6, 7, 8, 9, 10, 11, 13] rfl ?_
    exact t_L_acts_j790 (rk1 := rk1) (rk2 := rk2) X Y hL hq18 (by omega) (by omega) (by omega) (by omega) hf hk_kc hk_kx810
  replace hf := f_fn c hf
  refine v_iload X 8 dL_acts_778 rfl ?_
  refine v_goto (tgt := 790) X dL_acts_780 (by decide) ?_
  refine v_sub [0, 1, 2, 3, 4, 5, 6, 7, 8, 9, 10, 11, 13] rfl ?_
  exact t_L_acts_j790 (rk1 := rk1) (rk2 := rk2) X Y hL hq18 (by omega) (by omega) (by omega) (by omega) hf hk_kc hk_kx810
set_option maxRecDepth 100000 in
set_option maxHeartbeats 4000000 in
theorem t_L_acts_L708 (X : VX p s m args c cL_acts 24 RL wsL_acts D cI cL cS aC N0 ad0 len0 N ad len) (Y : RX meth (some .boolean)) (hL : LK N len) {q18 : Nat} {x9 : Int32} {x11 : Int32} {x19 : Int32} {kx810 : Int32 → Wd → Option (Int32 × Wd)} {out : Int32 × Wd} (hq18 : RW N len q18 52) (hk_kx810 : ∀ (cells slots : Nat) (y20 : Int32) (v : Wd), cells + 0 ≤ 883 → slots + 0 ≤ 7946 → kx810 y20 v = some out → VJ p l e rmL_acts s m args below meth c (MQ below (QZi D N0 ad0 (cellL cI cL cS aC len0) out.1 out.2 s.heap.size) args s 883 7946 (AF N0 ad0 s.heap.size)) 24 D cI cL cS aC N0 ad0 N ad len cells slots v 810 [(0, .ref (ad 472)), (9, .int x9), (11, .int x11), (19, .int x19), (20, .int y20)] []) : ∀ (n : Nat) (cells slots : Nat) (x20 : Int32) (x21 : Int32) (w : Wd), cells + (n * 2 + 0) ≤ 883 → slots + (n * 18 + 0) ≤ 7946 → m_L_acts_L708 N q18 x9 x11 x19 kx810 n x20 x21 w = some out → VJ p l e rmL_acts s m args below meth c (MQ below (QZi D N0 ad0 (cellL cI cL cS aC len0) out.1 out.2 s.heap.size) args s 883 7946 (AF N0 ad0 s.heap.size)) 24 D cI cL cS aC N0 ad0 N ad len cells slots w 708 [(0, .ref (ad 472)), (1, .ref (ad 490)), (2, .ref (ad 491)), (3, .ref (ad 492)), (4, .ref (ad 493)), (5, .ref (ad 494)), (6, .ref (ad 495)), (7, .ref (ad 496)), (9, .int x9), (11, .int x11), (18, .ref (ad q18)), (19, .int x19), (20, .int x20), (21, .int x21)] [] := by
  intro n
  induction n with
  | zero => intro cells slots x20 x21 w hB1 hB2 hf; exact f_n hf
  | succ n ih =>
    intro cells slots x20 x21 w hB1 hB2 hf
    rw [m_L_acts_L708] at hf
    have hN := hL.1
    refine v_iload X 13 dL_acts_708 rfl ?_
    refine v_iload X 9 dL_acts_710 rfl ?_
    refine v_icmp_ge (tgt := 810) X dL_acts_712 (by decide) (fun c => ?_) (fun c => ?_)
    · replace hf := f_t c hf
      refine v_sub [0, 8, 9, 11, 12] rfl ?_
      exact hk_kx810 _ _ _ _ (by omega) (by omega) hf
    replace hf := f_f c hf
    refine v_aload X 10 dL_acts_715 rfl ?_
    refine v_bipush X (v := (nI 13)) (by decide) dL_acts_717 ?_
    refine v_iload X 8 dL_acts_719 rfl ?_
    refine v_iconst X (v := (nI 1)) (by decide) dL_acts_721 ?_
    refine v_isub X dL_acts_722 ?_
    refine v_imul X dL_acts_723 ?_
    obtain ⟨hi1, hf⟩ := f_c hf
    refine v_iald X hq18 hi1 dL_acts_724 ?_
    refine v_if_le (tgt := 810) X dL_acts_725 (by decide) (fun c => ?_) (fun c => ?_)
    · replace hf := f_t c hf
      refine v_sub [0, 8, 9, 11, 12] rfl ?_
      exact hk_kx810 _ _ _ _ (by omega) (by omega) hf
    replace hf := f_f c hf
    refine v_aload X 10 dL_acts_728 rfl ?_
    refine v_iload X 8 dL_acts_730 rfl ?_
    obtain ⟨o2, ho2, hf⟩ := f_bd hf
    refine v_callSi X [.ref (ad q18), .int x9] (c_L_take X.inj (RW.i hq18) ho2) (va_cwS 2 X.2.2.2.2.1 gL_acts_L_take rfl rfl rfl (by decide +kernel) ⟨Nat.le_of_ble_eq_true rfl, Nat.le_of_ble_eq_true rfl⟩) rfl rfl (Nat.le_of_ble_eq_true rfl) ⟨by show _ ≤ 883; omega, by show _ ≤ 7946; omega⟩ dL_acts_732 ?_
    refine v_istore (lv' := [(0, .ref (ad 472)), (1, .ref (ad 490)), (2, .ref (ad 491)), (3, .ref (ad 492)), (4, .ref (ad 493)), (5, .ref (ad 494)), (6, .ref (ad 495)), (7, .ref (ad 496)), (9, .int x9), (11, .int x11), (18, .ref (ad q18)), (19, .int x19), (20, .int x20), (21, .int x21), (22, .int o2.1)]) X dL_acts_735 (by decide) rfl ?_
    refine v_iload X 11 dL_acts_737 rfl ?_
    refine v_if_ne (tgt := 752) X dL_acts_739 (by decide) (fun c => ?_) (fun c => ?_)
    · replace hf := f_t c hf
      refine v_iload X 8 dL_acts_752 rfl ?_
      exact t_L_acts_j754 (rk1 := (n * 2 + 0)) (rk2 := (n * 18 + 0)) X Y hL hq18 (by omega) (by omega) (by omega) (by omega) hf ih hk_kx810
    replace hf := f_fn c hf
    refine v_aload_n X 1 dL_acts_742 rfl rfl ?_
    refine v_bipush X (v := (nI 8)) (by decide) dL_acts_743 ?_
    refine v_iload X 8 dL_acts_745 rfl ?_
    refine v_iadd X dL_acts_747 ?_
    obtain ⟨hi3, hf⟩ := f_c hf
    refine v_iald X (lk0 hL) hi3 dL_acts_748 ?_
    refine v_goto (tgt := 754) X dL_acts_749 (by decide) ?_
    exact t_L_acts_j754 (rk1 := (n * 2 + 0)) (rk2 := (n * 18 + 0)) X Y hL hq18 (by omega) (by omega) (by omega) (by omega) hf ih hk_kx810
set_option maxRecDepth 100000 in
set_option maxHeartbeats 4000000 in
theorem t_L_acts_j810 (X : VX p s m args c cL_acts 24 RL wsL_acts D cI cL cS aC N0 ad0 len0 N ad len) (Y : RX meth (some .boolean)) (hL : LK N len) {x9 : Int32} {x11 : Int32} {x19 : Int32} {x20 : Int32} {w : Wd} {out : Int32 × Wd} (hB1 : cells + 0 ≤ 883) (hB2 : slots + 0 ≤ 7946) (hf : m_L_acts_j810 N x9 x11 x19 x20 w = some out) : VJ p l e rmL_acts s m args below meth c (MQ below (QZi D N0 ad0 (cellL cI cL cS aC len0) out.1 out.2 s.heap.size) args s 883 7946 (AF N0 ad0 s.heap.size)) 24 D cI cL cS aC N0 ad0 N ad len cells slots w 810 [(0, .ref (ad 472)), (9, .int x9), (11, .int x11), (19, .int x19), (20, .int x20)] [] := by
  unfold m_L_acts_j810 at hf
  have hN := hL.1
  refine v_aload_n X 0 dL_acts_810 rfl rfl ?_
  refine v_iload X 1 dL_acts_811 rfl ?_
  refine v_iload X 3 dL_acts_813 rfl ?_
  refine v_iload X 2 dL_acts_815 rfl ?_
  obtain ⟨o1, ho1, hf⟩ := f_bd hf
  obtain ⟨w2, ew2, hf⟩ := f_lt hf
  refine v_callCi X hL.n490 [.int x9, .int x19, .int x11] (c_X7_deliver X.inC ho1) (cwV 3 X.2.2.2.2.1 gL_acts_X7_deliver rfl rfl rfl (by decide +kernel) ⟨Nat.le_of_ble_eq_true rfl, Nat.le_of_ble_eq_true rfl⟩) rfl rfl (Nat.le_of_ble_eq_true rfl) ⟨by show _ ≤ 883; omega, by show _ ≤ 7946; omega⟩ dL_acts_817 ew2 ?_
  refine v_iload X 4 dL_acts_820 rfl ?_
  refine v_icmp_ne (tgt := 829) X dL_acts_822 (by decide) (fun c => ?_) (fun c => ?_)
  · replace hf := f_t c hf
    refine v_iconst X (v := (nI 0)) (by decide) dL_acts_829 ?_
    exact v_bret X Y (by omega) (by omega) (Eq.trans (by decide : (nI 0) &&& 1 = (nI 0)) (f_p1 hf)) (f_p2 hf) dL_acts_830
  replace hf := f_fn c hf
  refine v_iconst X (v := (nI 1)) (by decide) dL_acts_825 ?_
  refine v_goto (tgt := 830) X dL_acts_826 (by decide) ?_
  exact v_bret X Y (by omega) (by omega) (Eq.trans (by decide : (nI 1) &&& 1 = (nI 1)) (f_p1 hf)) (f_p2 hf) dL_acts_830
set_option maxRecDepth 100000 in
set_option maxHeartbeats 4000000 in
theorem t_L_acts_j652 (X : VX p s m args c cL_acts 24 RL wsL_acts D cI cL cS aC N0 ad0 len0 N ad len) (Y : RX meth (some .boolean)) (hL : LK N len) {q18 : Nat} {x9 : Int32} {x11 : Int32} {s0 : Int32} {w : Wd} {out : Int32 × Wd} (hq18 : RW N len q18 52) (hB1 : cells + 20 ≤ 883) (hB2 : slots + 180 ≤ 7946) (hf : m_L_acts_j652 N q18 x9 x11 s0 w = some out) : VJ p l e rmL_acts s m args below meth c (MQ below (QZi D N0 ad0 (cellL cI cL cS aC len0) out.1 out.2 s.heap.size) args s 883 7946 (AF N0 ad0 s.heap.size)) 24 D cI cL cS aC N0 ad0 N ad len cells slots w 652 [(0, .ref (ad 472)), (1, .ref (ad 490)), (2, .ref (ad 491)), (3, .ref (ad 492)), (4, .ref (ad 493)), (5, .ref (ad 494)), (6, .ref (ad 495)), (7, .ref (ad 496)), (9, .int x9), (11, .int x11), (18, .ref (ad q18))] [.int s0] := by
  unfold m_L_acts_j652 at hf
  have hN := hL.1
  refine v_istore (lv' := [(0, .ref (ad 472)), (1, .ref (ad 490)), (2, .ref (ad 491)), (3, .ref (ad 492)), (4, .ref (ad 493)), (5, .ref (ad 494)), (6, .ref (ad 495)), (7, .ref (ad 496)), (9, .int x9), (11, .int x11), (18, .ref (ad q18)), (19, .int s0)]) X dL_acts_652 (by decide) rfl ?_
  refine v_iload X 8 dL_acts_654 rfl ?_
  refine v_if_eq (tgt := 672) X dL_acts_656 (by decide) (fun c => ?_) (fun c => ?_)
  · replace hf := f_t c hf
    refine v_sub [0, 8, 9, 11] rfl ?_
    exact t_L_acts_j672 X Y hL (by omega) (by omega) hf
  replace hf := f_f c hf
  refine v_aload X 10 dL_acts_659 rfl ?_
  refine v_bipush X (v := (nI 13)) (by decide) dL_acts_661 ?_
  refine v_iload X 8 dL_acts_663 rfl ?_
  refine v_iconst X (v := (nI 1)) (by decide) dL_acts_665 ?_
  refine v_isub X dL_acts_666 ?_
  refine v_imul X dL_acts_667 ?_
  obtain ⟨hi1, hf⟩ := f_c hf
  refine v_iald X hq18 hi1 dL_acts_668 ?_
  refine v_if_ne (tgt := 702) X dL_acts_669 (by decide) (fun c => ?_) (fun c => ?_)
  · replace hf := f_t c hf
    refine v_iconst X (v := (nI 0)) (by decide) dL_acts_702 ?_
    refine v_istore (lv' := [(0, .ref (ad 472)), (1, .ref (ad 490)), (2, .ref (ad 491)), (3, .ref (ad 492)), (4, .ref (ad 493)), (5, .ref (ad 494)), (6, .ref (ad 495)), (7, .ref (ad 496)), (9, .int x9), (11, .int x11), (18, .ref (ad q18)), (19, .int s0), (20, .int (nI 0))]) X dL_acts_703 (by decide) rfl ?_
    refine v_iconst X (v := (nI 0)) (by decide) dL_acts_705 ?_
    refine v_istore (lv' := [(0, .ref (ad 472)), (1, .ref (ad 490)), (2, .ref (ad 491)), (3, .ref (ad 492)), (4, .ref (ad 493)), (5, .ref (ad 494)), (6, .ref (ad 495)), (7, .ref (ad 496)), (9, .int x9), (11, .int x11), (18, .ref (ad q18)), (19, .int s0), (20, .int (nI 0)), (21, .int (nI 0))]) X dL_acts_706 (by decide) rfl ?_
    obtain ⟨fu, hfu⟩ : ∃ k : Nat, k = 10 := ⟨_, rfl⟩
    rw [← hfu] at hf
    refine t_L_acts_L708 X Y hL hq18 ?_ _ _ _ _ _ _ ?_ ?_ hf
    · intro cells slots x20_2 w3 hB1 hB2 hf
      exact t_L_acts_j810 X Y hL (by omega) (by omega) hf
    · omega
    · omega
  replace hf := f_fn c hf
  refine v_sub [0, 8, 9, 11] rfl ?_
  exact t_L_acts_j672 X Y hL (by omega) (by omega) hf
set_option maxRecDepth 100000 in
set_option maxHeartbeats 4000000 in
theorem t_L_acts_j638 (X : VX p s m args c cL_acts 24 RL wsL_acts D cI cL cS aC N0 ad0 len0 N ad len) (Y : RX meth (some .boolean)) (hL : LK N len) {r0 : Nat} {x9 : Int32} {x11 : Int32} {w : Wd} {out : Int32 × Wd} (hr0 : RW N len r0 52) (hB1 : cells + 20 ≤ 883) (hB2 : slots + 180 ≤ 7946) (hf : m_L_acts_j638 N r0 x9 x11 w = some out) : VJ p l e rmL_acts s m args below meth c (MQ below (QZi D N0 ad0 (cellL cI cL cS aC len0) out.1 out.2 s.heap.size) args s 883 7946 (AF N0 ad0 s.heap.size)) 24 D cI cL cS aC N0 ad0 N ad len cells slots w 638 [(0, .ref (ad 472)), (1, .ref (ad 490)), (2, .ref (ad 491)), (3, .ref (ad 492)), (4, .ref (ad 493)), (5, .ref (ad 494)), (6, .ref (ad 495)), (7, .ref (ad 496)), (9, .int x9), (11, .int x11)] [.ref (ad r0)] := by
  unfold m_L_acts_j638 at hf
  have hN := hL.1
  refine v_astore (lv' := [(0, .ref (ad 472)), (1, .ref (ad 490)), (2, .ref (ad 491)), (3, .ref (ad 492)), (4, .ref (ad 493)), (5, .ref (ad 494)), (6, .ref (ad 495)), (7, .ref (ad 496)), (9, .int x9), (11, .int x11), (18, .ref (ad r0))]) X dL_acts_638 (by decide) rfl ?_
  refine v_aload X 10 dL_acts_640 rfl ?_
  refine v_aload X 4 dL_acts_642 rfl ?_
  refine v_acmp_ne X (hr0).2.1 ((lk3 hL)).2.1 (tgt := 651) dL_acts_644 (by decide) (fun c => ?_) (fun c => ?_)
  · replace hf := f_t c hf
    refine v_iconst X (v := (nI 1)) (by decide) dL_acts_651 ?_
    exact t_L_acts_j652 X Y hL hr0 (by omega) (by omega) hf
  replace hf := f_fn c hf
  refine v_iconst X (v := (nI 0)) (by decide) dL_acts_647 ?_
  refine v_goto (tgt := 652) X dL_acts_648 (by decide) ?_
  exact t_L_acts_j652 X Y hL hr0 (by omega) (by omega) hf
set_option maxRecDepth 100000 in
set_option maxHeartbeats 4000000 in
theorem c_L_acts (hI : Inj N ad) (hA : AC aC N ad) (hL : LK N len) {x8 : Int32} {w : Wd} {out : Int32 × Wd} (hf : m_L_acts N x8 w = some out) : ∀ sz : Nat, Met l yL_acts wsL_acts rmL_acts (va_Pc [.ref (ad 472), .ref (ad 490), .ref (ad 491), .ref (ad 492), .ref (ad 493), .ref (ad 494), .ref (ad 495), .ref (ad 496), .int x8] (PZ sz D (tC cI cL cS) N ad (cellL cI cL cS aC len) w)) (QZi D N ad (cellL cI cL cS aC len) out.1 out.2 sz) 883 7946 (AF N ad sz) := by
  intro sz
  refine mk_metZ (maxL := 24) (ret := (some .boolean)) RL hI hA hL.n490 (by decide) rfl rfl (Nat.le_of_ble_eq_true rfl) rfl rfl (fun p e s m args below meth c hsz X Y => ?_)
  subst hsz
  unfold m_L_acts at hf
  have hN := hL.1
  refine v_iload X 8 dL_acts_0 rfl ?_
  refine v_iconst X (v := (nI 5)) (by decide) dL_acts_2 ?_
  refine v_ishr X dL_acts_3 ?_
  refine v_aload_n X 1 dL_acts_4 rfl rfl ?_
  refine v_iconst X (v := (nI 0)) (by decide) dL_acts_5 ?_
  obtain ⟨hi1, hf⟩ := f_c hf
  refine v_iald X (lk0 hL) hi1 dL_acts_6 ?_
  obtain ⟨o2, ho2, hf⟩ := f_bd hf
  refine v_callSi X [.int (x8 >>> ((nI 5) &&& 31)), .int (w 490 (nI 0).toNatClampNeg)] (c_L_low X.inj ho2) (va_cwS 2 X.2.2.2.2.1 gL_acts_L_low rfl rfl rfl (by decide +kernel) ⟨Nat.le_of_ble_eq_true rfl, Nat.le_of_ble_eq_true rfl⟩) rfl rfl (Nat.le_of_ble_eq_true rfl) ⟨by show _ ≤ 883; omega, by show _ ≤ 7946; omega⟩ dL_acts_7 ?_
  refine v_istore (lv' := [(0, .ref (ad 472)), (1, .ref (ad 490)), (2, .ref (ad 491)), (3, .ref (ad 492)), (4, .ref (ad 493)), (5, .ref (ad 494)), (6, .ref (ad 495)), (7, .ref (ad 496)), (8, .int x8), (9, .int o2)]) X dL_acts_10 (by decide) rfl ?_
  refine v_iload X 8 dL_acts_12 rfl ?_
  refine v_bipush X (v := (nI 9)) (by decide) dL_acts_14 ?_
  refine v_ishr X dL_acts_16 ?_
  refine v_iconst X (v := (nI 4)) (by decide) dL_acts_17 ?_
  obtain ⟨o3, ho3, hf⟩ := f_bd hf
  refine v_callSi X [.int (x8 >>> ((nI 9) &&& 31)), .int (nI 4)] (c_L_low X.inj ho3) (va_cwS 2 X.2.2.2.2.1 gL_acts_L_low rfl rfl rfl (by decide +kernel) ⟨Nat.le_of_ble_eq_true rfl, Nat.le_of_ble_eq_true rfl⟩) rfl rfl (Nat.le_of_ble_eq_true rfl) ⟨by show _ ≤ 883; omega, by show _ ≤ 7946; omega⟩ dL_acts_18 ?_
  refine v_istore (lv' := [(0, .ref (ad 472)), (1, .ref (ad 490)), (2, .ref (ad 491)), (3, .ref (ad 492)), (4, .ref (ad 493)), (5, .ref (ad 494)), (6, .ref (ad 495)), (7, .ref (ad 496)), (8, .int x8), (9, .int o2), (10, .int o3)]) X dL_acts_21 (by decide) rfl ?_
  refine v_iconst X (v := (nI 1)) (by decide) dL_acts_23 ?_
  refine v_iload X 8 dL_acts_24 rfl ?_
  refine v_bipush X (v := (nI 11)) (by decide) dL_acts_26 ?_
  refine v_ishr X dL_acts_28 ?_
  refine v_bipush X (v := (nI 9)) (by decide) dL_acts_29 ?_
  obtain ⟨o4, ho4, hf⟩ := f_bd hf
  refine v_callSi X [.int (x8 >>> ((nI 11) &&& 31)), .int (nI 9)] (c_L_low X.inj ho4) (va_cwS 2 X.2.2.2.2.1 gL_acts_L_low rfl rfl rfl (by decide +kernel) ⟨Nat.le_of_ble_eq_true rfl, Nat.le_of_ble_eq_true rfl⟩) rfl rfl (Nat.le_of_ble_eq_true rfl) ⟨by show _ ≤ 883; omega, by show _ ≤ 7946; omega⟩ dL_acts_31 ?_
  refine v_iadd X dL_acts_34 ?_
  obtain ⟨x11_5, ex11_5, hf⟩ := f_lt hf
  refine v_top ex11_5 ?_
  refine v_istore (lv' := [(0, .ref (ad 472)), (1, .ref (ad 490)), (2, .ref (ad 491)), (3, .ref (ad 492)), (4, .ref (ad 493)), (5, .ref (ad 494)), (6, .ref (ad 495)), (7, .ref (ad 496)), (8, .int x8), (9, .int o2), (10, .int o3), (11, .int x11_5)]) X dL_acts_35 (by decide) rfl ?_
  refine v_iload X 8 dL_acts_37 rfl ?_
  refine v_bipush X (v := (nI 16)) (by decide) dL_acts_39 ?_
  obtain ⟨o6, ho6, hf⟩ := f_bd hf
  refine v_callSi X [.int x8, .int (nI 16)] (c_L_low X.inj ho6) (va_cwS 2 X.2.2.2.2.1 gL_acts_L_low rfl rfl rfl (by decide +kernel) ⟨Nat.le_of_ble_eq_true rfl, Nat.le_of_ble_eq_true rfl⟩) rfl rfl (Nat.le_of_ble_eq_true rfl) ⟨by show _ ≤ 883; omega, by show _ ≤ 7946; omega⟩ dL_acts_41 ?_
  by_cases c_0 : o6 = (nI 0)
  · replace hf := f_t c_0 hf
    refine v_tin (tgt := 96) (off := 52) X dL_acts_44 (by rw [c_0]; decide) (by rw [c_0]; decide) (by rw [c_0]; decide) (by decide) ?_
    refine v_aload_n X 1 dL_acts_96 rfl rfl ?_
    refine v_iconst X (v := (nI 1)) (by decide) dL_acts_97 ?_
    refine v_iload X 8 dL_acts_98 rfl ?_
    refine v_iconst X (v := (nI 5)) (by decide) dL_acts_100 ?_
    refine v_ishr X dL_acts_101 ?_
    refine v_bipush X (v := (nI 9)) (by decide) dL_acts_102 ?_
    obtain ⟨o7, ho7, hf⟩ := f_bd hf
    refine v_callSi X [.int (x8 >>> ((nI 5) &&& 31)), .int (nI 9)] (c_L_low X.inj ho7) (va_cwS 2 X.2.2.2.2.1 gL_acts_L_low rfl rfl rfl (by decide +kernel) ⟨Nat.le_of_ble_eq_true rfl, Nat.le_of_ble_eq_true rfl⟩) rfl rfl (Nat.le_of_ble_eq_true rfl) ⟨by show _ ≤ 883; omega, by show _ ≤ 7946; omega⟩ dL_acts_104 ?_
    obtain ⟨hi8, hf⟩ := f_c hf
    obtain ⟨w9, ew9, hf⟩ := f_lt hf
    refine v_iast X (lk0 hL) hi8 dL_acts_107 ew9 ?_
    refine v_aload_n X 1 dL_acts_108 rfl rfl ?_
    refine v_iconst X (v := (nI 2)) (by decide) dL_acts_109 ?_
    refine v_iconst X (v := (nI 1)) (by decide) dL_acts_110 ?_
    refine v_iload X 8 dL_acts_111 rfl ?_
    refine v_bipush X (v := (nI 9)) (by decide) dL_acts_113 ?_
    refine v_ishr X dL_acts_115 ?_
    refine v_iload X 8 dL_acts_116 rfl ?_
    refine v_bipush X (v := (nI 14)) (by decide) dL_acts_118 ?_
    refine v_ishr X dL_acts_120 ?_
    refine v_iconst X (v := (nI 2)) (by decide) dL_acts_121 ?_
    obtain ⟨o10, ho10, hf⟩ := f_bd hf
    refine v_callSi X [.int (x8 >>> ((nI 14) &&& 31)), .int (nI 2)] (c_L_low X.inj ho10) (va_cwS 2 X.2.2.2.2.1 gL_acts_L_low rfl rfl rfl (by decide +kernel) ⟨Nat.le_of_ble_eq_true rfl, Nat.le_of_ble_eq_true rfl⟩) rfl rfl (Nat.le_of_ble_eq_true rfl) ⟨by show _ ≤ 883; omega, by show _ ≤ 7946; omega⟩ dL_acts_122 ?_
    refine v_if_ne (tgt := 132) X dL_acts_125 (by decide) (fun c => ?_) (fun c => ?_)
    · replace hf := f_t c hf
      refine v_bipush X (v := (nI 12)) (by decide) dL_acts_132 ?_
      refine v_sub [0, 1] rfl ?_
      exact t_L_acts_j134 X Y hL (by omega) (by omega) hf
    replace hf := f_fn c hf
    refine v_iconst X (v := (nI 4)) (by decide) dL_acts_128 ?_
    refine v_goto (tgt := 134) X dL_acts_129 (by decide) ?_
    refine v_sub [0, 1] rfl ?_
    exact t_L_acts_j134 X Y hL (by omega) (by omega) hf
  replace hf := f_f c_0 hf
  by_cases c_1 : o6 = (nI 1)
  · replace hf := f_t c_1 hf
    refine v_tin (tgt := 158) (off := 114) X dL_acts_44 (by rw [c_1]; decide) (by rw [c_1]; decide) (by rw [c_1]; decide) (by decide) ?_
    refine v_sub [0, 1, 2, 3, 4, 5, 6, 7, 10] rfl ?_
    exact t_L_acts_j158 X Y hL (by omega) (by omega) hf
  replace hf := f_f c_1 hf
  by_cases c_2 : o6 = (nI 2)
  · replace hf := f_t c_2 hf
    refine v_tin (tgt := 158) (off := 114) X dL_acts_44 (by rw [c_2]; decide) (by rw [c_2]; decide) (by rw [c_2]; decide) (by decide) ?_
    refine v_sub [0, 1, 2, 3, 4, 5, 6, 7, 10] rfl ?_
    exact t_L_acts_j158 X Y hL (by omega) (by omega) hf
  replace hf := f_f c_2 hf
  by_cases c_3 : o6 = (nI 3)
  · replace hf := f_t c_3 hf
    refine v_tin (tgt := 158) (off := 114) X dL_acts_44 (by rw [c_3]; decide) (by rw [c_3]; decide) (by rw [c_3]; decide) (by decide) ?_
    refine v_sub [0, 1, 2, 3, 4, 5, 6, 7, 10] rfl ?_
    exact t_L_acts_j158 X Y hL (by omega) (by omega) hf
  replace hf := f_f c_3 hf
  by_cases c_4 : o6 = (nI 4)
  · replace hf := f_t c_4 hf
    refine v_tin (tgt := 158) (off := 114) X dL_acts_44 (by rw [c_4]; decide) (by rw [c_4]; decide) (by rw [c_4]; decide) (by decide) ?_
    refine v_sub [0, 1, 2, 3, 4, 5, 6, 7, 10] rfl ?_
    exact t_L_acts_j158 X Y hL (by omega) (by omega) hf
  replace hf := f_f c_4 hf
  by_cases c_5 : o6 = (nI 5)
  · replace hf := f_t c_5 hf
    refine v_tin (tgt := 368) (off := 324) X dL_acts_44 (by rw [c_5]; decide) (by rw [c_5]; decide) (by rw [c_5]; decide) (by decide) ?_
    refine v_iload X 9 dL_acts_368 rfl ?_
    refine v_if_ne (tgt := 377) X dL_acts_370 (by decide) (fun c => ?_) (fun c => ?_)
    · replace hf := f_t c hf
      refine v_aload_n X 1 dL_acts_377 rfl rfl ?_
      refine v_aload_n X 2 dL_acts_378 rfl rfl ?_
      refine v_aload_n X 3 dL_acts_379 rfl rfl ?_
      refine v_aload X 4 dL_acts_380 rfl ?_
      refine v_aload X 5 dL_acts_382 rfl ?_
      refine v_aload X 6 dL_acts_384 rfl ?_
      refine v_aload X 7 dL_acts_386 rfl ?_
      refine v_iload X 9 dL_acts_388 rfl ?_
      obtain ⟨o11, ho11, hf⟩ := f_bd hf
      refine v_callLi X [.ref (ad 490), .ref (ad 491), .ref (ad 492), .ref (ad 493), .ref (ad 494), .ref (ad 495), .ref (ad 496), .int o2] (c_L_ask X.inj X.ac hL ho11) (va_cwS 8 X.2.2.2.2.1 gL_acts_L_ask rfl rfl rfl (by decide +kernel) ⟨Nat.le_of_ble_eq_true rfl, Nat.le_of_ble_eq_true rfl⟩) rfl rfl (Nat.le_of_ble_eq_true rfl) ⟨by show _ ≤ 883; omega, by show _ ≤ 7946; omega⟩ dL_acts_390 ?_
      refine v_sub [0, 1, 9] rfl ?_
      exact t_L_acts_j393 X Y hL (by omega) (by omega) hf
    replace hf := f_fn c hf
    refine v_iconst X (v := (-1 : Int32)) (by decide) dL_acts_373 ?_
    refine v_goto (tgt := 393) X dL_acts_374 (by decide) ?_
    refine v_sub [0, 1, 9] rfl ?_
    exact t_L_acts_j393 X Y hL (by omega) (by omega) hf
  replace hf := f_f c_5 hf
  by_cases c_6 : o6 = (nI 6)
  · replace hf := f_t c_6 hf
    refine v_tin (tgt := 433) (off := 389) X dL_acts_44 (by rw [c_6]; decide) (by rw [c_6]; decide) (by rw [c_6]; decide) (by decide) ?_
    refine v_sub [0, 1, 2, 3, 6, 7, 8, 9, 10] rfl ?_
    exact t_L_acts_j433 X Y hL (by omega) (by omega) hf
  replace hf := f_f c_6 hf
  by_cases c_7 : o6 = (nI 7)
  · replace hf := f_t c_7 hf
    refine v_tin (tgt := 433) (off := 389) X dL_acts_44 (by rw [c_7]; decide) (by rw [c_7]; decide) (by rw [c_7]; decide) (by decide) ?_
    refine v_sub [0, 1, 2, 3, 6, 7, 8, 9, 10] rfl ?_
    exact t_L_acts_j433 X Y hL (by omega) (by omega) hf
  replace hf := f_f c_7 hf
  by_cases c_8 : o6 = (nI 8)
  · replace hf := f_t c_8 hf
    refine v_tin (tgt := 461) (off := 417) X dL_acts_44 (by rw [c_8]; decide) (by rw [c_8]; decide) (by rw [c_8]; decide) (by decide) ?_
    refine v_iload X 8 dL_acts_461 rfl ?_
    refine v_bipush X (v := (nI 15)) (by decide) dL_acts_463 ?_
    refine v_ishr X dL_acts_465 ?_
    refine v_iconst X (v := (nI 2)) (by decide) dL_acts_466 ?_
    obtain ⟨o12, ho12, hf⟩ := f_bd hf
    refine v_callSi X [.int (x8 >>> ((nI 15) &&& 31)), .int (nI 2)] (c_L_low X.inj ho12) (va_cwS 2 X.2.2.2.2.1 gL_acts_L_low rfl rfl rfl (by decide +kernel) ⟨Nat.le_of_ble_eq_true rfl, Nat.le_of_ble_eq_true rfl⟩) rfl rfl (Nat.le_of_ble_eq_true rfl) ⟨by show _ ≤ 883; omega, by show _ ≤ 7946; omega⟩ dL_acts_467 ?_
    refine v_if_ne (tgt := 478) X dL_acts_470 (by decide) (fun c => ?_) (fun c => ?_)
    · replace hf := f_t c hf
      refine v_aload X 5 dL_acts_478 rfl ?_
      refine v_sub [0, 1, 4, 9, 11] rfl ?_
      exact t_L_acts_j480 X Y hL (lk4 hL) (by omega) (by omega) hf
    replace hf := f_fn c hf
    refine v_aload X 4 dL_acts_473 rfl ?_
    refine v_goto (tgt := 480) X dL_acts_475 (by decide) ?_
    refine v_sub [0, 1, 4, 9, 11] rfl ?_
    exact t_L_acts_j480 X Y hL (lk3 hL) (by omega) (by omega) hf
  replace hf := f_f c_8 hf
  have hsw : (o6).toInt < 0 ∨ 8 < (o6).toInt := by
    rcases Int.lt_or_le (o6).toInt 0 with h | h
    · exact Or.inl h
    rcases Int.lt_or_le 8 (o6).toInt with h2 | h2
    · exact Or.inr h2
    exfalso
    have h3 : (o6).toInt = 0 ∨ (o6).toInt = 1 ∨ (o6).toInt = 2 ∨ (o6).toInt = 3 ∨ (o6).toInt = 4 ∨ (o6).toInt = 5 ∨ (o6).toInt = 6 ∨ (o6).toInt = 7 ∨ (o6).toInt = 8 := by omega
    rcases h3 with h3 | h3 | h3 | h3 | h3 | h3 | h3 | h3 | h3
    · exact c_0 (Int32.toInt_inj.mp (h3.trans (by decide)))
    · exact c_1 (Int32.toInt_inj.mp (h3.trans (by decide)))
    · exact c_2 (Int32.toInt_inj.mp (h3.trans (by decide)))
    · exact c_3 (Int32.toInt_inj.mp (h3.trans (by decide)))
    · exact c_4 (Int32.toInt_inj.mp (h3.trans (by decide)))
    · exact c_5 (Int32.toInt_inj.mp (h3.trans (by decide)))
    · exact c_6 (Int32.toInt_inj.mp (h3.trans (by decide)))
    · exact c_7 (Int32.toInt_inj.mp (h3.trans (by decide)))
    · exact c_8 (Int32.toInt_inj.mp (h3.trans (by decide)))
  refine v_tout (tgt := 619) X dL_acts_44 hsw (by decide) ?_
  refine v_iload X 8 dL_acts_619 rfl ?_
  refine v_bipush X (v := (nI 15)) (by decide) dL_acts_621 ?_
  refine v_ishr X dL_acts_623 ?_
  refine v_iconst X (v := (nI 2)) (by decide) dL_acts_624 ?_
  obtain ⟨o13, ho13, hf⟩ := f_bd hf
  refine v_callSi X [.int (x8 >>> ((nI 15) &&& 31)), .int (nI 2)] (c_L_low X.inj ho13) (va_cwS 2 X.2.2.2.2.1 gL_acts_L_low rfl rfl rfl (by decide +kernel) ⟨Nat.le_of_ble_eq_true rfl, Nat.le_of_ble_eq_true rfl⟩) rfl rfl (Nat.le_of_ble_eq_true rfl) ⟨by show _ ≤ 883; omega, by show _ ≤ 7946; omega⟩ dL_acts_625 ?_
  refine v_if_ne (tgt := 636) X dL_acts_628 (by decide) (fun c => ?_) (fun c => ?_)
  · replace hf := f_t c hf
    refine v_aload X 5 dL_acts_636 rfl ?_
    refine v_sub [0, 1, 2, 3, 4, 5, 6, 7, 9, 11] rfl ?_
    exact t_L_acts_j638 X Y hL (lk4 hL) (by omega) (by omega) hf
  replace hf := f_fn c hf
  refine v_aload X 4 dL_acts_631 rfl ?_
  refine v_goto (tgt := 638) X dL_acts_633 (by decide) ?_
  refine v_sub [0, 1, 2, 3, 4, 5, 6, 7, 9, 11] rfl ?_
  exact t_L_acts_j638 X Y hL (lk3 hL) (by omega) (by omega) hf
end WALK74
