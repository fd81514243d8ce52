/-! ===== the bytecode does what the model says (printed by wip/p27/tools/genL.py) ===== -/
section WALK79
variable {p : Program} {l : Launch} {e : Env} {s : State} {m : MethodId} {below : List Frame} {meth : Method} {c : Code} {D : va_G} {cI cL cS : ClassId} {ad : Nat → Nat} {aC ad0 : Nat → Nat} {N N0 : Nat} {len len0 : Nat → Nat} {cells slots : Nat} {b L : Nat} {xs : Nat → Int32}
set_option maxRecDepth 100000 in
set_option maxHeartbeats 4000000 in
theorem t_L_law_j153 {rk1 rk2 : Nat} (X : VX p s m #[Value.ref b] c cL_law 13 RL wsL_law D cI cL cS aC N0 ad0 len0 N ad len) (Y : RX meth (some .boolean)) (hL : LK N len) (hx : LX0 s b L xs N0) {x9 : Int32} {x11 : Int32} {s0 : Int32} {w : Wd} {kc : Int32 → Int32 → Wd → Option (Int32 × Wd)} {kx168 : Int32 → Wd → Option (Int32 × Wd)} {out : Int32 × Wd} (hout : out.1 = nI 1) (hB1 : cells + (0 + rk1) ≤ 100000) (hB2 : slots + (0 + rk2) ≤ 1000000) (hX1 : 60113 ≤ rk1) (hX2 : 540604 ≤ rk2) (hf : m_L_law_j153 N L xs x9 x11 s0 w kc kx168 = some out) (hk_kc : ∀ (cells slots : Nat) (y10 : Int32) (y11 : Int32) (v : Wd), cells + rk1 ≤ 100000 → slots + rk2 ≤ 1000000 → kc y10 y11 v = some out → VJ p l e room_1 s m #[Value.ref b] below meth c (lw_Z below #[Value.ref b] s) 13 D cI cL cS aC N0 ad0 N ad len cells slots v 81 [(0, .ref b), (1, .ref (ad 472)), (2, .ref (ad 490)), (3, .ref (ad 491)), (4, .ref (ad 492)), (5, .ref (ad 493)), (6, .ref (ad 494)), (7, .ref (ad 495)), (8, .ref (ad 496)), (9, .int x9), (10, .int y10), (11, .int y11)] []) (hk_kx168 : ∀ (cells slots : Nat) (y10 : Int32) (v : Wd), cells + 60113 ≤ 100000 → slots + 540604 ≤ 1000000 → kx168 y10 v = some out → VJ p l e room_1 s m #[Value.ref b] below meth c (lw_Z below #[Value.ref b] s) 13 D cI cL cS aC N0 ad0 N ad len cells slots v 168 [(0, .ref b), (1, .ref (ad 472)), (2, .ref (ad 490)), (3, .ref (ad 491)), (4, .ref (ad 492)), (5, .ref (ad 493)), (6, .ref (ad 494)), (7, .ref (ad 495)), (8, .ref (ad 496)), (9, .int x9), (10, .int y10)] []) : VJ p l e room_1 s m #[Value.ref b] below meth c (lw_Z below #[Value.ref b] s) 13 D cI cL cS aC N0 ad0 N ad len cells slots w 153 [(0, .ref b), (1, .ref (ad 472)), (2, .ref (ad 490)), (3, .ref (ad 491)), (4, .ref (ad 492)), (5, .ref (ad 493)), (6, .ref (ad 494)), (7, .ref (ad 495)), (8, .ref (ad 496)), (9, .int x9), (11, .int x11)] [.int s0] := by
  unfold m_L_law_j153 at hf
  have hN := hL.1
  refine v_istore (lv' := [(0, .ref b), (1, .ref (ad 472)), (2, .ref (ad 490)), (3, .ref (ad 491)), (4, .ref (ad 492)), (5, .ref (ad 493)), (6, .ref (ad 494)), (7, .ref (ad 495)), (8, .ref (ad 496)), (9, .int x9), (10, .int s0), (11, .int x11)]) X dL_law_153 (by decide) rfl ?_
  refine v_aload_n X 2 dL_law_155 rfl rfl ?_
  refine v_iconst X (v := (nI 0)) (by decide) dL_law_156 ?_
  refine v_dup2 X rfl rfl dL_law_157 ?_
  obtain ⟨hi1, hf⟩ := f_c hf
  refine v_iald X (lk0 hL) hi1 dL_law_158 ?_
  refine v_iconst X (v := (nI 1)) (by decide) dL_law_159 ?_
  refine v_iadd X dL_law_160 ?_
  obtain ⟨hi2, hf⟩ := f_c hf
  obtain ⟨w3, ew3, hf⟩ := f_lt hf
  refine v_iast X (lk0 hL) hi2 dL_law_161 ew3 ?_
  refine v_iinc (v := (x11 + (nI 1))) (lv' := [(0, .ref b), (1, .ref (ad 472)), (2, .ref (ad 490)), (3, .ref (ad 491)), (4, .ref (ad 492)), (5, .ref (ad 493)), (6, .ref (ad 494)), (7, .ref (ad 495)), (8, .ref (ad 496)), (9, .int x9), (10, .int s0), (11, .int (x11 + (nI 1)))]) X 11 dL_law_162 rfl rfl (by decide) rfl ?_
  refine v_goto (tgt := 81) X dL_law_165 (by decide) ?_
  exact hk_kc _ _ _ _ _ (by omega) (by omega) hf
set_option maxRecDepth 100000 in
set_option maxHeartbeats 4000000 in
theorem t_L_law_j152 {rk1 rk2 : Nat} (X : VX p s m #[Value.ref b] c cL_law 13 RL wsL_law D cI cL cS aC N0 ad0 len0 N ad len) (Y : RX meth (some .boolean)) (hL : LK N len) (hx : LX0 s b L xs N0) {x9 : Int32} {x11 : Int32} {w : Wd} {kc : Int32 → Int32 → Wd → Option (Int32 × Wd)} {kx168 : Int32 → Wd → Option (Int32 × Wd)} {out : Int32 × Wd} (hout : out.1 = nI 1) (hB1 : cells + (0 + rk1) ≤ 100000) (hB2 : slots + (0 + rk2) ≤ 1000000) (hX1 : 60113 ≤ rk1) (hX2 : 540604 ≤ rk2) (hf : m_L_law_j152 N L xs x9 x11 w kc kx168 = some out) (hk_kc : ∀ (cells slots : Nat) (y10 : Int32) (y11 : Int32) (v : Wd), cells + rk1 ≤ 100000 → slots + rk2 ≤ 1000000 → kc y10 y11 v = some out → VJ p l e room_1 s m #[Value.ref b] below meth c (lw_Z below #[Value.ref b] s) 13 D cI cL cS aC N0 ad0 N ad len cells slots v 81 [(0, .ref b), (1, .ref (ad 472)), (2, .ref (ad 490)), (3, .ref (ad 491)), (4, .ref (ad 492)), (5, .ref (ad 493)), (6, .ref (ad 494)), (7, .ref (ad 495)), (8, .ref (ad 496)), (9, .int x9), (10, .int y10), (11, .int y11)] []) (hk_kx168 : ∀ (cells slots : Nat) (y10 : Int32) (v : Wd), cells + 60113 ≤ 100000 → slots + 540604 ≤ 1000000 → kx168 y10 v = some out → VJ p l e room_1 s m #[Value.ref b] below meth c (lw_Z below #[Value.ref b] s) 13 D cI cL cS aC N0 ad0 N ad len cells slots v 168 [(0, .ref b), (1, .ref (ad 472)), (2, .ref (ad 490)), (3, .ref (ad 491)), (4, .ref (ad 492)), (5, .ref (ad 493)), (6, .ref (ad 494)), (7, .ref (ad 495)), (8, .ref (ad 496)), (9, .int x9), (10, .int y10)] []) : VJ p l e room_1 s m #[Value.ref b] below meth c (lw_Z below #[Value.ref b] s) 13 D cI cL cS aC N0 ad0 N ad len cells slots w 152 [(0, .ref b), (1, .ref (ad 472)), (2, .ref (ad 490)), (3, .ref (ad 491)), (4, .ref (ad 492)), (5, .ref (ad 493)), (6, .ref (ad 494)), (7, .ref (ad 495)), (8, .ref (ad 496)), (9, .int x9), (11, .int x11)] [] := by
  unfold m_L_law_j152 at hf
  have hN := hL.1
  refine v_iconst X (v := (nI 0)) (by decide) dL_law_152 ?_
  exact t_L_law_j153 (rk1 := rk1) (rk2 := rk2) X Y hL hx hout (by omega) (by omega) (by omega) (by omega) hf hk_kc hk_kx168
set_option maxRecDepth 100000 in
set_option maxHeartbeats 4000000 in
theorem t_L_law_L81 (X : VX p s m #[Value.ref b] c cL_law 13 RL wsL_law D cI cL cS aC N0 ad0 len0 N ad len) (Y : RX meth (some .boolean)) (hL : LK N len) (hx : LX0 s b L xs N0) {x9 : Int32} {kx168 : Int32 → Wd → Option (Int32 × Wd)} {out : Int32 × Wd} (hout : out.1 = nI 1) (hk_kx168 : ∀ (cells slots : Nat) (y10 : Int32) (v : Wd), cells + 60113 ≤ 100000 → slots + 540604 ≤ 1000000 → kx168 y10 v = some out → VJ p l e room_1 s m #[Value.ref b] below meth c (lw_Z below #[Value.ref b] s) 13 D cI cL cS aC N0 ad0 N ad len cells slots v 168 [(0, .ref b), (1, .ref (ad 472)), (2, .ref (ad 490)), (3, .ref (ad 491)), (4, .ref (ad 492)), (5, .ref (ad 493)), (6, .ref (ad 494)), (7, .ref (ad 495)), (8, .ref (ad 496)), (9, .int x9), (10, .int y10)] []) : ∀ (n : Nat) (cells slots : Nat) (x10 : Int32) (x11 : Int32) (w : Wd), cells + 60113 ≤ 100000 → slots + 540604 ≤ 1000000 → m_L_law_L81 N L xs x9 kx168 n x10 x11 w = some out → VJ p l e room_1 s m #[Value.ref b] below meth c (lw_Z below #[Value.ref b] s) 13 D cI cL cS aC N0 ad0 N ad len cells slots w 81 [(0, .ref b), (1, .ref (ad 472)), (2, .ref (ad 490)), (3, .ref (ad 491)), (4, .ref (ad 492)), (5, .ref (ad 493)), (6, .ref (ad 494)), (7, .ref (ad 495)), (8, .ref (ad 496)), (9, .int x9), (10, .int x10), (11, .int x11)] [] := by
  intro n
  induction n with
  | zero => intro cells slots x10 x11 w hB1 hB2 hf; exact f_n hf
  | succ n ih =>
    intro cells slots x10 x11 w hB1 hB2 hf
    rw [m_L_law_L81] at hf
    have hN := hL.1
    refine v_iload X 11 dL_law_81 rfl ?_
    refine v_iload X 9 dL_law_83 rfl ?_
    refine v_icmp_ge (tgt := 168) X dL_law_85 (by decide) (fun c => ?_) (fun c => ?_)
    · replace hf := f_t c hf
      refine v_sub [0, 1, 2, 3, 4, 5, 6, 7, 8, 9, 10] rfl ?_
      exact hk_kx168 _ _ _ _ (by omega) (by omega) hf
    replace hf := f_f c hf
    refine v_iload X 10 dL_law_88 rfl ?_
    refine v_if_eq (tgt := 168) X dL_law_90 (by decide) (fun c => ?_) (fun c => ?_)
    · replace hf := f_t c hf
      refine v_sub [0, 1, 2, 3, 4, 5, 6, 7, 8, 9, 10] rfl ?_
      exact hk_kx168 _ _ _ _ (by omega) (by omega) hf
    replace hf := f_f c hf
    refine v_aload_n X 2 dL_law_93 rfl rfl ?_
    refine v_bipush X (v := (nI 8)) (by decide) dL_law_94 ?_
    refine v_iload X 11 dL_law_96 rfl ?_
    refine v_iadd X dL_law_98 ?_
    refine v_aload_n X 0 dL_law_99 rfl rfl ?_
    refine v_iconst X (v := (nI 0)) (by decide) dL_law_100 ?_
    obtain ⟨o1, ho1, hf⟩ := f_bd hf
    refine v_callX X hx [.ref b, .int (nI 0)] ho1 (va_cwS 2 X.2.2.2.2.1 gL_law_L_cell rfl rfl rfl (by decide +kernel) ⟨Nat.le_of_ble_eq_true rfl, Nat.le_of_ble_eq_true rfl⟩) rfl rfl (Nat.le_of_ble_eq_true rfl) ⟨Nat.le_trans (m := 100000) (by omega) room_c, Nat.le_trans (m := 1000000) (by omega) room_s⟩ dL_law_101 ?_
    refine v_iconst X (v := (nI 3)) (by decide) dL_law_104 ?_
    refine v_iload X 11 dL_law_105 rfl ?_
    refine v_imul X dL_law_107 ?_
    refine v_ishr X dL_law_108 ?_
    refine v_iload X 11 dL_law_109 rfl ?_
    obtain ⟨o2, ho2, hf⟩ := f_bd hf
    refine v_callSi X [.int (o1 >>> (((nI 3) * x11) &&& 31)), .int x11] (c_L_low X.inj ho2) (va_cwS 2 X.2.2.2.2.1 gL_law_L_low rfl rfl rfl (by decide +kernel) ⟨Nat.le_of_ble_eq_true rfl, Nat.le_of_ble_eq_true rfl⟩) rfl rfl (Nat.le_of_ble_eq_true rfl) ⟨Nat.le_trans (m := 100000) (by omega) room_c, Nat.le_trans (m := 1000000) (by omega) room_s⟩ dL_law_111 ?_
    obtain ⟨hi3, hf⟩ := f_c hf
    obtain ⟨w4, ew4, hf⟩ := f_lt hf
    refine v_iast X (lk0 hL) hi3 dL_law_114 ew4 ?_
    refine v_aload_n X 1 dL_law_115 rfl rfl ?_
    refine v_aload_n X 2 dL_law_116 rfl rfl ?_
    refine v_bipush X (v := (nI 8)) (by decide) dL_law_117 ?_
    refine v_iload X 11 dL_law_119 rfl ?_
    refine v_iadd X dL_law_121 ?_
    obtain ⟨hi5, hf⟩ := f_c hf
    refine v_iald X (lk0 hL) hi5 dL_law_122 ?_
    obtain ⟨o6, ho6, hf⟩ := f_bd hf
    obtain ⟨w7, ew7, hf⟩ := f_lt hf
    refine v_callCi X hL.n490 [.int (w4 490 ((nI 8) + x11).toNatClampNeg)] (c_X7_addProxy X.inC ho6) (cwV 1 X.2.2.2.2.1 gL_law_X7_addProxy rfl rfl rfl (by decide +kernel) ⟨Nat.le_of_ble_eq_true rfl, Nat.le_of_ble_eq_true rfl⟩) rfl rfl (Nat.le_of_ble_eq_true rfl) ⟨Nat.le_trans (m := 100000) (by omega) room_c, Nat.le_trans (m := 1000000) (by omega) room_s⟩ dL_law_123 ew7 ?_
    refine v_iload X 11 dL_law_126 rfl ?_
    refine v_icmp_ne (tgt := 152) X dL_law_128 (by decide) (fun c => ?_) (fun c => ?_)
    · replace hf := f_t c hf
      refine v_sub [0, 1, 2, 3, 4, 5, 6, 7, 8, 9, 11] rfl ?_
      exact t_L_law_j152 (rk1 := 60113) (rk2 := 540604) X Y hL hx hout (by omega) (by omega) (by omega) (by omega) hf ih hk_kx168
    replace hf := f_fn c hf
    refine v_aload_n X 1 dL_law_131 rfl rfl ?_
    refine v_iload X 11 dL_law_132 rfl ?_
    refine v_iconst X (v := (nI 0)) (by decide) dL_law_134 ?_
    obtain ⟨o8, ho8, hf⟩ := f_bd hf
    obtain ⟨w9, ew9, hf⟩ := f_lt hf
    refine v_callCi X hL.n490 [.int x11, .int (nI 0)] (c_X7_proxy X.inC ho8) (cwV 2 X.2.2.2.2.1 gL_law_X7_proxy rfl rfl rfl (by decide +kernel) ⟨Nat.le_of_ble_eq_true rfl, Nat.le_of_ble_eq_true rfl⟩) rfl rfl (Nat.le_of_ble_eq_true rfl) ⟨Nat.le_trans (m := 100000) (by omega) room_c, Nat.le_trans (m := 1000000) (by omega) room_s⟩ dL_law_135 ew9 ?_
    refine v_aload_n X 2 dL_law_138 rfl rfl ?_
    refine v_bipush X (v := (nI 8)) (by decide) dL_law_139 ?_
    refine v_iload X 11 dL_law_141 rfl ?_
    refine v_iadd X dL_law_143 ?_
    obtain ⟨hi10, hf⟩ := f_c hf
    refine v_iald X (lk0 hL) hi10 dL_law_144 ?_
    refine v_icmp_ne (tgt := 152) X dL_law_145 (by decide) (fun c => ?_) (fun c => ?_)
    · replace hf := f_t c hf
      refine v_sub [0, 1, 2, 3, 4, 5, 6, 7, 8, 9, 11] rfl ?_
      exact t_L_law_j152 (rk1 := 60113) (rk2 := 540604) X Y hL hx hout (by omega) (by omega) (by omega) (by omega) hf ih hk_kx168
    replace hf := f_fn c hf
    refine v_iconst X (v := (nI 1)) (by decide) dL_law_148 ?_
    refine v_goto (tgt := 153) X dL_law_149 (by decide) ?_
    refine v_sub [0, 1, 2, 3, 4, 5, 6, 7, 8, 9, 11] rfl ?_
    exact t_L_law_j153 (rk1 := 60113) (rk2 := 540604) X Y hL hx hout (by omega) (by omega) (by omega) (by omega) hf ih hk_kx168
set_option maxRecDepth 100000 in
set_option maxHeartbeats 4000000 in
theorem t_L_law_j225 {rk1 rk2 : Nat} (X : VX p s m #[Value.ref b] c cL_law 13 RL wsL_law D cI cL cS aC N0 ad0 len0 N ad len) (Y : RX meth (some .boolean)) (hL : LK N len) (hx : LX0 s b L xs N0) {x9 : Int32} {x11 : Int32} {s0 : Int32} {w : Wd} {kc : Int32 → Int32 → Wd → Option (Int32 × Wd)} {kx233 : Int32 → Wd → Option (Int32 × Wd)} {out : Int32 × Wd} (hout : out.1 = nI 1) (hB1 : cells + (0 + rk1) ≤ 100000) (hB2 : slots + (0 + rk2) ≤ 1000000) (hX1 : 60113 ≤ rk1) (hX2 : 540604 ≤ rk2) (hf : m_L_law_j225 N L xs x9 x11 s0 w kc kx233 = some out) (hk_kc : ∀ (cells slots : Nat) (y10 : Int32) (y11 : Int32) (v : Wd), cells + rk1 ≤ 100000 → slots + rk2 ≤ 1000000 → kc y10 y11 v = some out → VJ p l e room_1 s m #[Value.ref b] below meth c (lw_Z below #[Value.ref b] s) 13 D cI cL cS aC N0 ad0 N ad len cells slots v 171 [(0, .ref b), (1, .ref (ad 472)), (2, .ref (ad 490)), (3, .ref (ad 491)), (4, .ref (ad 492)), (5, .ref (ad 493)), (6, .ref (ad 494)), (7, .ref (ad 495)), (8, .ref (ad 496)), (9, .int x9), (10, .int y10), (11, .int y11)] []) (hk_kx233 : ∀ (cells slots : Nat) (y10 : Int32) (v : Wd), cells + 60113 ≤ 100000 → slots + 540604 ≤ 1000000 → kx233 y10 v = some out → VJ p l e room_1 s m #[Value.ref b] below meth c (lw_Z below #[Value.ref b] s) 13 D cI cL cS aC N0 ad0 N ad len cells slots v 233 [(0, .ref b), (1, .ref (ad 472)), (2, .ref (ad 490)), (3, .ref (ad 491)), (4, .ref (ad 492)), (5, .ref (ad 493)), (6, .ref (ad 494)), (7, .ref (ad 495)), (8, .ref (ad 496)), (10, .int y10)] []) : VJ p l e room_1 s m #[Value.ref b] below meth c (lw_Z below #[Value.ref b] s) 13 D cI cL cS aC N0 ad0 N ad len cells slots w 225 [(0, .ref b), (1, .ref (ad 472)), (2, .ref (ad 490)), (3, .ref (ad 491)), (4, .ref (ad 492)), (5, .ref (ad 493)), (6, .ref (ad 494)), (7, .ref (ad 495)), (8, .ref (ad 496)), (9, .int x9), (11, .int x11)] [.int s0] := by
  unfold m_L_law_j225 at hf
  have hN := hL.1
  refine v_istore (lv' := [(0, .ref b), (1, .ref (ad 472)), (2, .ref (ad 490)), (3, .ref (ad 491)), (4, .ref (ad 492)), (5, .ref (ad 493)), (6, .ref (ad 494)), (7, .ref (ad 495)), (8, .ref (ad 496)), (9, .int x9), (10, .int s0), (11, .int x11)]) X dL_law_225 (by decide) rfl ?_
  refine v_iinc (v := (x11 + (nI 1))) (lv' := [(0, .ref b), (1, .ref (ad 472)), (2, .ref (ad 490)), (3, .ref (ad 491)), (4, .ref (ad 492)), (5, .ref (ad 493)), (6, .ref (ad 494)), (7, .ref (ad 495)), (8, .ref (ad 496)), (9, .int x9), (10, .int s0), (11, .int (x11 + (nI 1)))]) X 11 dL_law_227 rfl rfl (by decide) rfl ?_
  refine v_goto (tgt := 171) X dL_law_230 (by decide) ?_
  exact hk_kc _ _ _ _ _ (by omega) (by omega) hf
set_option maxRecDepth 100000 in
set_option maxHeartbeats 4000000 in
theorem t_L_law_L171 (X : VX p s m #[Value.ref b] c cL_law 13 RL wsL_law D cI cL cS aC N0 ad0 len0 N ad len) (Y : RX meth (some .boolean)) (hL : LK N len) (hx : LX0 s b L xs N0) {x9 : Int32} {kx233 : Int32 → Wd → Option (Int32 × Wd)} {out : Int32 × Wd} (hout : out.1 = nI 1) (hk_kx233 : ∀ (cells slots : Nat) (y10 : Int32) (v : Wd), cells + 60113 ≤ 100000 → slots + 540604 ≤ 1000000 → kx233 y10 v = some out → VJ p l e room_1 s m #[Value.ref b] below meth c (lw_Z below #[Value.ref b] s) 13 D cI cL cS aC N0 ad0 N ad len cells slots v 233 [(0, .ref b), (1, .ref (ad 472)), (2, .ref (ad 490)), (3, .ref (ad 491)), (4, .ref (ad 492)), (5, .ref (ad 493)), (6, .ref (ad 494)), (7, .ref (ad 495)), (8, .ref (ad 496)), (10, .int y10)] []) : ∀ (n : Nat) (cells slots : Nat) (x10 : Int32) (x11 : Int32) (w : Wd), cells + 60113 ≤ 100000 → slots + 540604 ≤ 1000000 → m_L_law_L171 N L xs x9 kx233 n x10 x11 w = some out → VJ p l e room_1 s m #[Value.ref b] below meth c (lw_Z below #[Value.ref b] s) 13 D cI cL cS aC N0 ad0 N ad len cells slots w 171 [(0, .ref b), (1, .ref (ad 472)), (2, .ref (ad 490)), (3, .ref (ad 491)), (4, .ref (ad 492)), (5, .ref (ad 493)), (6, .ref (ad 494)), (7, .ref (ad 495)), (8, .ref (ad 496)), (9, .int x9), (10, .int x10), (11, .int x11)] [] := by
  intro n
  induction n with
  | zero => intro cells slots x10 x11 w hB1 hB2 hf; exact f_n hf
  | succ n ih =>
    intro cells slots x10 x11 w hB1 hB2 hf
    rw [m_L_law_L171] at hf
    have hN := hL.1
    refine v_iload X 11 dL_law_171 rfl ?_
    refine v_iconst X (v := (nI 4)) (by decide) dL_law_173 ?_
    refine v_icmp_ge (tgt := 233) X dL_law_174 (by decide) (fun c => ?_) (fun c => ?_)
    · replace hf := f_t c hf
      refine v_sub [0, 1, 2, 3, 4, 5, 6, 7, 8, 10] rfl ?_
      exact hk_kx233 _ _ _ _ (by omega) (by omega) hf
    replace hf := f_f c hf
    refine v_iload X 10 dL_law_177 rfl ?_
    refine v_if_eq (tgt := 233) X dL_law_179 (by decide) (fun c => ?_) (fun c => ?_)
    · replace hf := f_t c hf
      refine v_sub [0, 1, 2, 3, 4, 5, 6, 7, 8, 10] rfl ?_
      exact hk_kx233 _ _ _ _ (by omega) (by omega) hf
    replace hf := f_f c hf
    refine v_aload_n X 2 dL_law_182 rfl rfl ?_
    refine v_bipush X (v := (nI 16)) (by decide) dL_law_183 ?_
    refine v_iload X 11 dL_law_185 rfl ?_
    refine v_iadd X dL_law_187 ?_
    refine v_aload_n X 0 dL_law_188 rfl rfl ?_
    refine v_iconst X (v := (nI 1)) (by decide) dL_law_189 ?_
    obtain ⟨o1, ho1, hf⟩ := f_bd hf
    refine v_callX X hx [.ref b, .int (nI 1)] ho1 (va_cwS 2 X.2.2.2.2.1 gL_law_L_cell rfl rfl rfl (by decide +kernel) ⟨Nat.le_of_ble_eq_true rfl, Nat.le_of_ble_eq_true rfl⟩) rfl rfl (Nat.le_of_ble_eq_true rfl) ⟨Nat.le_trans (m := 100000) (by omega) room_c, Nat.le_trans (m := 1000000) (by omega) room_s⟩ dL_law_190 ?_
    refine v_iconst X (v := (nI 3)) (by decide) dL_law_193 ?_
    refine v_iload X 11 dL_law_194 rfl ?_
    refine v_imul X dL_law_196 ?_
    refine v_ishr X dL_law_197 ?_
    refine v_iload X 9 dL_law_198 rfl ?_
    obtain ⟨o2, ho2, hf⟩ := f_bd hf
    refine v_callSi X [.int (o1 >>> (((nI 3) * x11) &&& 31)), .int x9] (c_L_low X.inj ho2) (va_cwS 2 X.2.2.2.2.1 gL_law_L_low rfl rfl rfl (by decide +kernel) ⟨Nat.le_of_ble_eq_true rfl, Nat.le_of_ble_eq_true rfl⟩) rfl rfl (Nat.le_of_ble_eq_true rfl) ⟨Nat.le_trans (m := 100000) (by omega) room_c, Nat.le_trans (m := 1000000) (by omega) room_s⟩ dL_law_200 ?_
    obtain ⟨hi3, hf⟩ := f_c hf
    obtain ⟨w4, ew4, hf⟩ := f_lt hf
    refine v_iast X (lk0 hL) hi3 dL_law_203 ew4 ?_
    refine v_aload_n X 1 dL_law_204 rfl rfl ?_
    refine v_iload X 11 dL_law_205 rfl ?_
    refine v_aload_n X 2 dL_law_207 rfl rfl ?_
    refine v_bipush X (v := (nI 16)) (by decide) dL_law_208 ?_
    refine v_iload X 11 dL_law_210 rfl ?_
    refine v_iadd X dL_law_212 ?_
    obtain ⟨hi5, hf⟩ := f_c hf
    refine v_iald X (lk0 hL) hi5 dL_law_213 ?_
    obtain ⟨o6, ho6, hf⟩ := f_bd hf
    obtain ⟨w7, ew7, hf⟩ := f_lt hf
    refine v_callCi X hL.n490 [.int x11, .int (w4 490 ((nI 16) + x11).toNatClampNeg)] (c_X7_setHome X.inC ho6) (cwV 2 X.2.2.2.2.1 gL_law_X7_setHome rfl rfl rfl (by decide +kernel) ⟨Nat.le_of_ble_eq_true rfl, Nat.le_of_ble_eq_true rfl⟩) rfl rfl (Nat.le_of_ble_eq_true rfl) ⟨Nat.le_trans (m := 100000) (by omega) room_c, Nat.le_trans (m := 1000000) (by omega) room_s⟩ dL_law_214 ew7 ?_
    refine v_if_ne (tgt := 224) X dL_law_217 (by decide) (fun c => ?_) (fun c => ?_)
    · replace hf := f_t c hf
      refine v_iconst X (v := (nI 0)) (by decide) dL_law_224 ?_
      refine v_sub [0, 1, 2, 3, 4, 5, 6, 7, 8, 9, 11] rfl ?_
      exact t_L_law_j225 (rk1 := 60113) (rk2 := 540604) X Y hL hx hout (by omega) (by omega) (by omega) (by omega) hf ih hk_kx233
    replace hf := f_fn c hf
    refine v_iconst X (v := (nI 1)) (by decide) dL_law_220 ?_
    refine v_goto (tgt := 225) X dL_law_221 (by decide) ?_
    refine v_sub [0, 1, 2, 3, 4, 5, 6, 7, 8, 9, 11] rfl ?_
    exact t_L_law_j225 (rk1 := 60113) (rk2 := 540604) X Y hL hx hout (by omega) (by omega) (by omega) (by omega) hf ih hk_kx233
set_option maxRecDepth 100000 in
set_option maxHeartbeats 4000000 in
theorem t_L_law_j355 {rk1 rk2 : Nat} (X : VX p s m #[Value.ref b] c cL_law 13 RL wsL_law D cI cL cS aC N0 ad0 len0 N ad len) (Y : RX meth (some .boolean)) (hL : LK N len) (hx : LX0 s b L xs N0) {x11 : Int32} {x12 : Int32} {s0 : Int32} {w : Wd} {kc : Int32 → Int32 → Wd → Option (Int32 × Wd)} {out : Int32 × Wd} (hout : out.1 = nI 1) (hB1 : cells + (0 + rk1) ≤ 100000) (hB2 : slots + (0 + rk2) ≤ 1000000) (hX1 : 0 ≤ rk1) (hX2 : 0 ≤ rk2) (hf : m_L_law_j355 N L xs x11 x12 s0 w kc = some out) (hk_kc : ∀ (cells slots : Nat) (y10 : Int32) (y12 : Int32) (v : Wd), cells + rk1 ≤ 100000 → slots + rk2 ≤ 1000000 → kc y10 y12 v = some out → VJ p l e room_1 s m #[Value.ref b] below meth c (lw_Z below #[Value.ref b] s) 13 D cI cL cS aC N0 ad0 N ad len cells slots v 285 [(0, .ref b), (1, .ref (ad 472)), (2, .ref (ad 490)), (3, .ref (ad 491)), (4, .ref (ad 492)), (5, .ref (ad 493)), (6, .ref (ad 494)), (7, .ref (ad 495)), (8, .ref (ad 496)), (10, .int y10), (11, .int x11), (12, .int y12)] []) : VJ p l e room_1 s m #[Value.ref b] below meth c (lw_Z below #[Value.ref b] s) 13 D cI cL cS aC N0 ad0 N ad len cells slots w 355 [(0, .ref b), (1, .ref (ad 472)), (2, .ref (ad 490)), (3, .ref (ad 491)), (4, .ref (ad 492)), (5, .ref (ad 493)), (6, .ref (ad 494)), (7, .ref (ad 495)), (8, .ref (ad 496)), (11, .int x11), (12, .int x12)] [.int s0] := by
  unfold m_L_law_j355 at hf
  have hN := hL.1
  refine v_istore (lv' := [(0, .ref b), (1, .ref (ad 472)), (2, .ref (ad 490)), (3, .ref (ad 491)), (4, .ref (ad 492)), (5, .ref (ad 493)), (6, .ref (ad 494)), (7, .ref (ad 495)), (8, .ref (ad 496)), (10, .int s0), (11, .int x11), (12, .int x12)]) X dL_law_355 (by decide) rfl ?_
  refine v_iinc (v := (x12 + (nI 1))) (lv' := [(0, .ref b), (1, .ref (ad 472)), (2, .ref (ad 490)), (3, .ref (ad 491)), (4, .ref (ad 492)), (5, .ref (ad 493)), (6, .ref (ad 494)), (7, .ref (ad 495)), (8, .ref (ad 496)), (10, .int s0), (11, .int x11), (12, .int (x12 + (nI 1)))]) X 11 dL_law_357 rfl rfl (by decide) rfl ?_
  refine v_goto (tgt := 285) X dL_law_360 (by decide) ?_
  exact hk_kc _ _ _ _ _ (by omega) (by omega) hf
set_option maxRecDepth 100000 in
set_option maxHeartbeats 4000000 in
theorem t_L_law_j354 {rk1 rk2 : Nat} (X : VX p s m #[Value.ref b] c cL_law 13 RL wsL_law D cI cL cS aC N0 ad0 len0 N ad len) (Y : RX meth (some .boolean)) (hL : LK N len) (hx : LX0 s b L xs N0) {x11 : Int32} {x12 : Int32} {w : Wd} {kc : Int32 → Int32 → Wd → Option (Int32 × Wd)} {out : Int32 × Wd} (hout : out.1 = nI 1) (hB1 : cells + (0 + rk1) ≤ 100000) (hB2 : slots + (0 + rk2) ≤ 1000000) (hX1 : 0 ≤ rk1) (hX2 : 0 ≤ rk2) (hf : m_L_law_j354 N L xs x11 x12 w kc = some out) (hk_kc : ∀ (cells slots : Nat) (y10 : Int32) (y12 : Int32) (v : Wd), cells + rk1 ≤ 100000 → slots + rk2 ≤ 1000000 → kc y10 y12 v = some out → VJ p l e room_1 s m #[Value.ref b] below meth c (lw_Z below #[Value.ref b] s) 13 D cI cL cS aC N0 ad0 N ad len cells slots v 285 [(0, .ref b), (1, .ref (ad 472)), (2, .ref (ad 490)), (3, .ref (ad 491)), (4, .ref (ad 492)), (5, .ref (ad 493)), (6, .ref (ad 494)), (7, .ref (ad 495)), (8, .ref (ad 496)), (10, .int y10), (11, .int x11), (12, .int y12)] []) : VJ p l e room_1 s m #[Value.ref b] below meth c (lw_Z below #[Value.ref b] s) 13 D cI cL cS aC N0 ad0 N ad len cells slots w 354 [(0, .ref b), (1, .ref (ad 472)), (2, .ref (ad 490)), (3, .ref (ad 491)), (4, .ref (ad 492)), (5, .ref (ad 493)), (6, .ref (ad 494)), (7, .ref (ad 495)), (8, .ref (ad 496)), (11, .int x11), (12, .int x12)] [] := by
  unfold m_L_law_j354 at hf
  have hN := hL.1
  refine v_iconst X (v := (nI 0)) (by decide) dL_law_354 ?_
  exact t_L_law_j355 (rk1 := rk1) (rk2 := rk2) X Y hL hx hout (by omega) (by omega) (by omega) (by omega) hf hk_kc
set_option maxRecDepth 100000 in
set_option maxHeartbeats 4000000 in
theorem t_L_law_L285 (X : VX p s m #[Value.ref b] c cL_law 13 RL wsL_law D cI cL cS aC N0 ad0 len0 N ad len) (Y : RX meth (some .boolean)) (hL : LK N len) (hx : LX0 s b L xs N0) {x11 : Int32} {out : Int32 × Wd} (hout : out.1 = nI 1) : ∀ (n : Nat) (cells slots : Nat) (x10 : Int32) (x12 : Int32) (w : Wd), cells + (n * 884 + 0) ≤ 100000 → slots + (n * 7950 + 0) ≤ 1000000 → m_L_law_L285 N L xs x11 n x10 x12 w = some out → VJ p l e room_1 s m #[Value.ref b] below meth c (lw_Z below #[Value.ref b] s) 13 D cI cL cS aC N0 ad0 N ad len cells slots w 285 [(0, .ref b), (1, .ref (ad 472)), (2, .ref (ad 490)), (3, .ref (ad 491)), (4, .ref (ad 492)), (5, .ref (ad 493)), (6, .ref (ad 494)), (7, .ref (ad 495)), (8, .ref (ad 496)), (10, .int x10), (11, .int x11), (12, .int x12)] [] := by
  intro n
  induction n with
  | zero => intro cells slots x10 x12 w hB1 hB2 hf; exact f_n hf
  | succ n ih =>
    intro cells slots x10 x12 w hB1 hB2 hf
    rw [m_L_law_L285] at hf
    have hN := hL.1
    refine v_iload X 11 dL_law_285 rfl ?_
    refine v_iload X 10 dL_law_287 rfl ?_
    refine v_icmp_ge (tgt := 363) X dL_law_289 (by decide) (fun c => ?_) (fun c => ?_)
    · replace hf := f_t c hf
      refine v_iload X 9 dL_law_363 rfl ?_
      exact v_lawret X Y hx (f_p1 hf) hout (by omega) (by omega) dL_law_365
    replace hf := f_f c hf
    refine v_iload X 9 dL_law_292 rfl ?_
    refine v_if_eq (tgt := 363) X dL_law_294 (by decide) (fun c => ?_) (fun c => ?_)
    · replace hf := f_t c hf
      refine v_iload X 9 dL_law_363 rfl ?_
      exact v_lawret X Y hx (f_p1 hf) hout (by omega) (by omega) dL_law_365
    replace hf := f_f c hf
    refine v_aload_n X 1 dL_law_297 rfl rfl ?_
    refine v_aload_n X 2 dL_law_298 rfl rfl ?_
    refine v_aload_n X 3 dL_law_299 rfl rfl ?_
    refine v_aload X 4 dL_law_300 rfl ?_
    refine v_aload X 5 dL_law_302 rfl ?_
    refine v_aload X 6 dL_law_304 rfl ?_
    refine v_aload X 7 dL_law_306 rfl ?_
    refine v_aload X 8 dL_law_308 rfl ?_
    refine v_aload_n X 0 dL_law_310 rfl rfl ?_
    refine v_iconst X (v := (nI 2)) (by decide) dL_law_311 ?_
    refine v_iload X 11 dL_law_312 rfl ?_
    refine v_iadd X dL_law_314 ?_
    obtain ⟨o1, ho1, hf⟩ := f_bd hf
    refine v_callX X hx [.ref b, .int ((nI 2) + x12)] ho1 (va_cwS 2 X.2.2.2.2.1 gL_law_L_cell rfl rfl rfl (by decide +kernel) ⟨Nat.le_of_ble_eq_true rfl, Nat.le_of_ble_eq_true rfl⟩) rfl rfl (Nat.le_of_ble_eq_true rfl) ⟨Nat.le_trans (m := 100000) (by omega) room_c, Nat.le_trans (m := 1000000) (by omega) room_s⟩ dL_law_315 ?_
    refine v_sipush X (v := (nI 7919)) (by decide) dL_law_318 ?_
    refine v_iload X 11 dL_law_321 rfl ?_
    refine v_imul X dL_law_323 ?_
    refine v_ixor X dL_law_324 ?_
    obtain ⟨o2, ho2, hf⟩ := f_bd hf
    refine v_callLi X [.ref (ad 472), .ref (ad 490), .ref (ad 491), .ref (ad 492), .ref (ad 493), .ref (ad 494), .ref (ad 495), .ref (ad 496), .int (o1 ^^^ ((nI 7919) * x12))] (c_L_acts X.inj X.ac hL ho2) (va_cwS 9 X.2.2.2.2.1 gL_law_L_acts rfl rfl rfl (by decide +kernel) ⟨Nat.le_of_ble_eq_true rfl, Nat.le_of_ble_eq_true rfl⟩) rfl rfl (Nat.le_of_ble_eq_true rfl) ⟨Nat.le_trans (m := 100000) (by omega) room_c, Nat.le_trans (m := 1000000) (by omega) room_s⟩ dL_law_325 ?_
    refine v_if_eq (tgt := 354) X dL_law_328 (by decide) (fun c => ?_) (fun c => ?_)
    · replace hf := f_t c hf
      refine v_sub [0, 1, 2, 3, 4, 5, 6, 7, 8, 10, 11] rfl ?_
      exact t_L_law_j354 (rk1 := (n * 884 + 0)) (rk2 := (n * 7950 + 0)) X Y hL hx hout (by omega) (by omega) (by omega) (by omega) hf ih
    replace hf := f_f c hf
    refine v_aload_n X 1 dL_law_331 rfl rfl ?_
    refine v_aload_n X 2 dL_law_332 rfl rfl ?_
    refine v_aload_n X 3 dL_law_333 rfl rfl ?_
    refine v_aload X 4 dL_law_334 rfl ?_
    refine v_aload X 5 dL_law_336 rfl ?_
    refine v_aload X 6 dL_law_338 rfl ?_
    refine v_aload X 7 dL_law_340 rfl ?_
    refine v_aload X 8 dL_law_342 rfl ?_
    obtain ⟨o3, ho3, hf⟩ := f_bd hf
    refine v_callLi X [.ref (ad 472), .ref (ad 490), .ref (ad 491), .ref (ad 492), .ref (ad 493), .ref (ad 494), .ref (ad 495), .ref (ad 496)] (c_L_isSo X.inj X.ac hL ho3) (va_cwS 8 X.2.2.2.2.1 gL_law_L_isSo rfl rfl rfl (by decide +kernel) ⟨Nat.le_of_ble_eq_true rfl, Nat.le_of_ble_eq_true rfl⟩) rfl rfl (Nat.le_of_ble_eq_true rfl) ⟨Nat.le_trans (m := 100000) (by omega) room_c, Nat.le_trans (m := 1000000) (by omega) room_s⟩ dL_law_344 ?_
    refine v_if_eq (tgt := 354) X dL_law_347 (by decide) (fun c => ?_) (fun c => ?_)
    · replace hf := f_t c hf
      refine v_sub [0, 1, 2, 3, 4, 5, 6, 7, 8, 10, 11] rfl ?_
      exact t_L_law_j354 (rk1 := (n * 884 + 0)) (rk2 := (n * 7950 + 0)) X Y hL hx hout (by omega) (by omega) (by omega) (by omega) hf ih
    replace hf := f_f c hf
    refine v_iconst X (v := (nI 1)) (by decide) dL_law_350 ?_
    refine v_goto (tgt := 355) X dL_law_351 (by decide) ?_
    refine v_sub [0, 1, 2, 3, 4, 5, 6, 7, 8, 10, 11] rfl ?_
    exact t_L_law_j355 (rk1 := (n * 884 + 0)) (rk2 := (n * 7950 + 0)) X Y hL hx hout (by omega) (by omega) (by omega) (by omega) hf ih
set_option maxRecDepth 100000 in
set_option maxHeartbeats 4000000 in
theorem t_L_law_j262 (X : VX p s m #[Value.ref b] c cL_law 13 RL wsL_law D cI cL cS aC N0 ad0 len0 N ad len) (Y : RX meth (some .boolean)) (hL : LK N len) (hx : LX0 s b L xs N0) {s0 : Int32} {w : Wd} {out : Int32 × Wd} (hout : out.1 = nI 1) (hB1 : cells + 60112 ≤ 100000) (hB2 : slots + 540600 ≤ 1000000) (hf : m_L_law_j262 N L xs s0 w = some out) : VJ p l e room_1 s m #[Value.ref b] below meth c (lw_Z below #[Value.ref b] s) 13 D cI cL cS aC N0 ad0 N ad len cells slots w 262 [(0, .ref b), (1, .ref (ad 472)), (2, .ref (ad 490)), (3, .ref (ad 491)), (4, .ref (ad 492)), (5, .ref (ad 493)), (6, .ref (ad 494)), (7, .ref (ad 495)), (8, .ref (ad 496))] [.int s0] := by
  unfold m_L_law_j262 at hf
  have hN := hL.1
  refine v_istore (lv' := [(0, .ref b), (1, .ref (ad 472)), (2, .ref (ad 490)), (3, .ref (ad 491)), (4, .ref (ad 492)), (5, .ref (ad 493)), (6, .ref (ad 494)), (7, .ref (ad 495)), (8, .ref (ad 496)), (10, .int s0)]) X dL_law_262 (by decide) rfl ?_
  refine v_bipush X (v := (nI 8)) (by decide) dL_law_264 ?_
  refine v_aload_n X 0 dL_law_266 rfl rfl ?_
  refine v_iconst X (v := (nI 1)) (by decide) dL_law_267 ?_
  obtain ⟨o1, ho1, hf⟩ := f_bd hf
  refine v_callX X hx [.ref b, .int (nI 1)] ho1 (va_cwS 2 X.2.2.2.2.1 gL_law_L_cell rfl rfl rfl (by decide +kernel) ⟨Nat.le_of_ble_eq_true rfl, Nat.le_of_ble_eq_true rfl⟩) rfl rfl (Nat.le_of_ble_eq_true rfl) ⟨Nat.le_trans (m := 100000) (by omega) room_c, Nat.le_trans (m := 1000000) (by omega) room_s⟩ dL_law_268 ?_
  refine v_bipush X (v := (nI 13)) (by decide) dL_law_271 ?_
  refine v_ishr X dL_law_273 ?_
  refine v_bipush X (v := (nI 60)) (by decide) dL_law_274 ?_
  obtain ⟨o2, ho2, hf⟩ := f_bd hf
  refine v_callSi X [.int (o1 >>> ((nI 13) &&& 31)), .int (nI 60)] (c_L_low X.inj ho2) (va_cwS 2 X.2.2.2.2.1 gL_law_L_low rfl rfl rfl (by decide +kernel) ⟨Nat.le_of_ble_eq_true rfl, Nat.le_of_ble_eq_true rfl⟩) rfl rfl (Nat.le_of_ble_eq_true rfl) ⟨Nat.le_trans (m := 100000) (by omega) room_c, Nat.le_trans (m := 1000000) (by omega) room_s⟩ dL_law_276 ?_
  refine v_iadd X dL_law_279 ?_
  obtain ⟨x11_3, ex11_3, hf⟩ := f_lt hf
  refine v_top ex11_3 ?_
  refine v_istore (lv' := [(0, .ref b), (1, .ref (ad 472)), (2, .ref (ad 490)), (3, .ref (ad 491)), (4, .ref (ad 492)), (5, .ref (ad 493)), (6, .ref (ad 494)), (7, .ref (ad 495)), (8, .ref (ad 496)), (10, .int s0), (11, .int x11_3)]) X dL_law_280 (by decide) rfl ?_
  refine v_iconst X (v := (nI 0)) (by decide) dL_law_282 ?_
  refine v_istore (lv' := [(0, .ref b), (1, .ref (ad 472)), (2, .ref (ad 490)), (3, .ref (ad 491)), (4, .ref (ad 492)), (5, .ref (ad 493)), (6, .ref (ad 494)), (7, .ref (ad 495)), (8, .ref (ad 496)), (10, .int s0), (11, .int x11_3), (12, .int (nI 0))]) X dL_law_283 (by decide) rfl ?_
  obtain ⟨fu, hfu⟩ : ∃ k : Nat, k = 68 := ⟨_, rfl⟩
  rw [← hfu] at hf
  refine t_L_law_L285 X Y hL hx hout _ _ _ _ _ _ ?_ ?_ hf
  · omega
  · omega
set_option maxRecDepth 100000 in
set_option maxHeartbeats 4000000 in
theorem t_L_law_j261 (X : VX p s m #[Value.ref b] c cL_law 13 RL wsL_law D cI cL cS aC N0 ad0 len0 N ad len) (Y : RX meth (some .boolean)) (hL : LK N len) (hx : LX0 s b L xs N0) {w : Wd} {out : Int32 × Wd} (hout : out.1 = nI 1) (hB1 : cells + 60112 ≤ 100000) (hB2 : slots + 540600 ≤ 1000000) (hf : m_L_law_j261 N L xs w = some out) : VJ p l e room_1 s m #[Value.ref b] below meth c (lw_Z below #[Value.ref b] s) 13 D cI cL cS aC N0 ad0 N ad len cells slots w 261 [(0, .ref b), (1, .ref (ad 472)), (2, .ref (ad 490)), (3, .ref (ad 491)), (4, .ref (ad 492)), (5, .ref (ad 493)), (6, .ref (ad 494)), (7, .ref (ad 495)), (8, .ref (ad 496))] [] := by
  unfold m_L_law_j261 at hf
  have hN := hL.1
  refine v_iconst X (v := (nI 0)) (by decide) dL_law_261 ?_
  exact t_L_law_j262 X Y hL hx hout (by omega) (by omega) hf
set_option maxRecDepth 100000 in
set_option maxHeartbeats 4000000 in
theorem t_L_law_j233 (X : VX p s m #[Value.ref b] c cL_law 13 RL wsL_law D cI cL cS aC N0 ad0 len0 N ad len) (Y : RX meth (some .boolean)) (hL : LK N len) (hx : LX0 s b L xs N0) {x10 : Int32} {w : Wd} {out : Int32 × Wd} (hout : out.1 = nI 1) (hB1 : cells + 60113 ≤ 100000) (hB2 : slots + 540604 ≤ 1000000) (hf : m_L_law_j233 N L xs x10 w = some out) : VJ p l e room_1 s m #[Value.ref b] below meth c (lw_Z below #[Value.ref b] s) 13 D cI cL cS aC N0 ad0 N ad len cells slots w 233 [(0, .ref b), (1, .ref (ad 472)), (2, .ref (ad 490)), (3, .ref (ad 491)), (4, .ref (ad 492)), (5, .ref (ad 493)), (6, .ref (ad 494)), (7, .ref (ad 495)), (8, .ref (ad 496)), (10, .int x10)] [] := by
  unfold m_L_law_j233 at hf
  have hN := hL.1
  refine v_iload X 9 dL_law_233 rfl ?_
  refine v_if_eq (tgt := 261) X dL_law_235 (by decide) (fun c => ?_) (fun c => ?_)
  · replace hf := f_t c hf
    refine v_sub [0, 1, 2, 3, 4, 5, 6, 7, 8] rfl ?_
    exact t_L_law_j261 X Y hL hx hout (by omega) (by omega) hf
  replace hf := f_f c hf
  refine v_aload_n X 1 dL_law_238 rfl rfl ?_
  refine v_aload_n X 2 dL_law_239 rfl rfl ?_
  refine v_aload_n X 3 dL_law_240 rfl rfl ?_
  refine v_aload X 4 dL_law_241 rfl ?_
  refine v_aload X 5 dL_law_243 rfl ?_
  refine v_aload X 6 dL_law_245 rfl ?_
  refine v_aload X 7 dL_law_247 rfl ?_
  refine v_aload X 8 dL_law_249 rfl ?_
  obtain ⟨o1, ho1, hf⟩ := f_bd hf
  refine v_callLi X [.ref (ad 472), .ref (ad 490), .ref (ad 491), .ref (ad 492), .ref (ad 493), .ref (ad 494), .ref (ad 495), .ref (ad 496)] (c_L_isSo X.inj X.ac hL ho1) (va_cwS 8 X.2.2.2.2.1 gL_law_L_isSo rfl rfl rfl (by decide +kernel) ⟨Nat.le_of_ble_eq_true rfl, Nat.le_of_ble_eq_true rfl⟩) rfl rfl (Nat.le_of_ble_eq_true rfl) ⟨Nat.le_trans (m := 100000) (by omega) room_c, Nat.le_trans (m := 1000000) (by omega) room_s⟩ dL_law_251 ?_
  refine v_if_eq (tgt := 261) X dL_law_254 (by decide) (fun c => ?_) (fun c => ?_)
  · replace hf := f_t c hf
    refine v_sub [0, 1, 2, 3, 4, 5, 6, 7, 8] rfl ?_
    exact t_L_law_j261 X Y hL hx hout (by omega) (by omega) hf
  replace hf := f_f c hf
  refine v_iconst X (v := (nI 1)) (by decide) dL_law_257 ?_
  refine v_goto (tgt := 262) X dL_law_258 (by decide) ?_
  refine v_sub [0, 1, 2, 3, 4, 5, 6, 7, 8] rfl ?_
  exact t_L_law_j262 X Y hL hx hout (by omega) (by omega) hf
set_option maxRecDepth 100000 in
set_option maxHeartbeats 4000000 in
theorem t_L_law_j168 (X : VX p s m #[Value.ref b] c cL_law 13 RL wsL_law D cI cL cS aC N0 ad0 len0 N ad len) (Y : RX meth (some .boolean)) (hL : LK N len) (hx : LX0 s b L xs N0) {x9 : Int32} {x10 : Int32} {w : Wd} {out : Int32 × Wd} (hout : out.1 = nI 1) (hB1 : cells + 60113 ≤ 100000) (hB2 : slots + 540604 ≤ 1000000) (hf : m_L_law_j168 N L xs x9 x10 w = some out) : VJ p l e room_1 s m #[Value.ref b] below meth c (lw_Z below #[Value.ref b] s) 13 D cI cL cS aC N0 ad0 N ad len cells slots w 168 [(0, .ref b), (1, .ref (ad 472)), (2, .ref (ad 490)), (3, .ref (ad 491)), (4, .ref (ad 492)), (5, .ref (ad 493)), (6, .ref (ad 494)), (7, .ref (ad 495)), (8, .ref (ad 496)), (9, .int x9), (10, .int x10)] [] := by
  unfold m_L_law_j168 at hf
  have hN := hL.1
  refine v_iconst X (v := (nI 0)) (by decide) dL_law_168 ?_
  refine v_istore (lv' := [(0, .ref b), (1, .ref (ad 472)), (2, .ref (ad 490)), (3, .ref (ad 491)), (4, .ref (ad 492)), (5, .ref (ad 493)), (6, .ref (ad 494)), (7, .ref (ad 495)), (8, .ref (ad 496)), (9, .int x9), (10, .int x10), (11, .int (nI 0))]) X dL_law_169 (by decide) rfl ?_
  refine t_L_law_L171 X Y hL hx hout ?_ _ _ _ _ _ _ ?_ ?_ hf
  · intro cells slots x10_1 w2 hB1 hB2 hf
    exact t_L_law_j233 X Y hL hx hout (by omega) (by omega) hf
  · have hFU : FU * 0 = 0 := rfl; omega
  · have hFU : FU * 0 = 0 := rfl; omega
set_option maxRecDepth 100000 in
set_option maxHeartbeats 4000000 in
theorem t_L_law_j48 (X : VX p s m #[Value.ref b] c cL_law 13 RL wsL_law D cI cL cS aC N0 ad0 len0 N ad len) (Y : RX meth (some .boolean)) (hL : LK N len) (hx : LX0 s b L xs N0) {w : Wd} {out : Int32 × Wd} (hout : out.1 = nI 1) (hB1 : cells + 60113 ≤ 100000) (hB2 : slots + 540604 ≤ 1000000) (hf : m_L_law_j48 N L xs w = some out) : VJ p l e room_1 s m #[Value.ref b] below meth c (lw_Z below #[Value.ref b] s) 13 D cI cL cS aC N0 ad0 N ad len cells slots w 48 [(0, .ref b), (1, .ref (ad 472)), (2, .ref (ad 490)), (3, .ref (ad 491)), (4, .ref (ad 492)), (5, .ref (ad 493)), (6, .ref (ad 494)), (7, .ref (ad 495)), (8, .ref (ad 496))] [] := by
  unfold m_L_law_j48 at hf
  have hN := hL.1
  refine v_aload_n X 2 dL_law_48 rfl rfl ?_
  refine v_iconst X (v := (nI 0)) (by decide) dL_law_49 ?_
  refine v_iconst X (v := (nI 1)) (by decide) dL_law_50 ?_
  obtain ⟨hi1, hf⟩ := f_c hf
  obtain ⟨w2, ew2, hf⟩ := f_lt hf
  refine v_iast X (lk0 hL) hi1 dL_law_51 ew2 ?_
  refine v_aload_n X 2 dL_law_52 rfl rfl ?_
  refine v_iconst X (v := (nI 1)) (by decide) dL_law_53 ?_
  refine v_bipush X (v := (nI 8)) (by decide) dL_law_54 ?_
  obtain ⟨hi3, hf⟩ := f_c hf
  obtain ⟨w4, ew4, hf⟩ := f_lt hf
  refine v_iast X (lk0 hL) hi3 dL_law_56 ew4 ?_
  refine v_aload_n X 2 dL_law_57 rfl rfl ?_
  refine v_iconst X (v := (nI 2)) (by decide) dL_law_58 ?_
  refine v_bipush X (v := (nI 12)) (by decide) dL_law_59 ?_
  obtain ⟨hi5, hf⟩ := f_c hf
  obtain ⟨w6, ew6, hf⟩ := f_lt hf
  refine v_iast X (lk0 hL) hi5 dL_law_61 ew6 ?_
  refine v_iconst X (v := (nI 1)) (by decide) dL_law_62 ?_
  refine v_aload_n X 0 dL_law_63 rfl rfl ?_
  refine v_iconst X (v := (nI 0)) (by decide) dL_law_64 ?_
  obtain ⟨o7, ho7, hf⟩ := f_bd hf
  refine v_callX X hx [.ref b, .int (nI 0)] ho7 (va_cwS 2 X.2.2.2.2.1 gL_law_L_cell rfl rfl rfl (by decide +kernel) ⟨Nat.le_of_ble_eq_true rfl, Nat.le_of_ble_eq_true rfl⟩) rfl rfl (Nat.le_of_ble_eq_true rfl) ⟨Nat.le_trans (m := 100000) (by omega) room_c, Nat.le_trans (m := 1000000) (by omega) room_s⟩ dL_law_65 ?_
  refine v_iconst X (v := (nI 5)) (by decide) dL_law_68 ?_
  obtain ⟨o8, ho8, hf⟩ := f_bd hf
  refine v_callSi X [.int o7, .int (nI 5)] (c_L_low X.inj ho8) (va_cwS 2 X.2.2.2.2.1 gL_law_L_low rfl rfl rfl (by decide +kernel) ⟨Nat.le_of_ble_eq_true rfl, Nat.le_of_ble_eq_true rfl⟩) rfl rfl (Nat.le_of_ble_eq_true rfl) ⟨Nat.le_trans (m := 100000) (by omega) room_c, Nat.le_trans (m := 1000000) (by omega) room_s⟩ dL_law_69 ?_
  refine v_iadd X dL_law_72 ?_
  obtain ⟨x9_9, ex9_9, hf⟩ := f_lt hf
  refine v_top ex9_9 ?_
  refine v_istore (lv' := [(0, .ref b), (1, .ref (ad 472)), (2, .ref (ad 490)), (3, .ref (ad 491)), (4, .ref (ad 492)), (5, .ref (ad 493)), (6, .ref (ad 494)), (7, .ref (ad 495)), (8, .ref (ad 496)), (9, .int x9_9)]) X dL_law_73 (by decide) rfl ?_
  refine v_iconst X (v := (nI 1)) (by decide) dL_law_75 ?_
  refine v_istore (lv' := [(0, .ref b), (1, .ref (ad 472)), (2, .ref (ad 490)), (3, .ref (ad 491)), (4, .ref (ad 492)), (5, .ref (ad 493)), (6, .ref (ad 494)), (7, .ref (ad 495)), (8, .ref (ad 496)), (9, .int x9_9), (10, .int (nI 1))]) X dL_law_76 (by decide) rfl ?_
  refine v_iconst X (v := (nI 1)) (by decide) dL_law_78 ?_
  refine v_istore (lv' := [(0, .ref b), (1, .ref (ad 472)), (2, .ref (ad 490)), (3, .ref (ad 491)), (4, .ref (ad 492)), (5, .ref (ad 493)), (6, .ref (ad 494)), (7, .ref (ad 495)), (8, .ref (ad 496)), (9, .int x9_9), (10, .int (nI 1)), (11, .int (nI 1))]) X dL_law_79 (by decide) rfl ?_
  refine t_L_law_L81 X Y hL hx hout ?_ _ _ _ _ _ _ ?_ ?_ hf
  · intro cells slots x10_10 w11 hB1 hB2 hf
    exact t_L_law_j168 X Y hL hx hout (by omega) (by omega) hf
  · have hFU : FU * 0 = 0 := rfl; omega
  · have hFU : FU * 0 = 0 := rfl; omega
end WALK79
