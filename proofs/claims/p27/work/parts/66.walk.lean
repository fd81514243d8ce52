/-! ===== the bytecode does what the model says (printed by wip/p27/tools/genL.py) ===== -/
section WALK19
variable {p : Program} {l : Launch} {e : Env} {s : State} {m : MethodId} {args : Array Value} {below : List Frame} {meth : Method} {c : Code} {D : va_G} {cI cL cS : ClassId} {ad : Nat → Nat} {N : Nat} {cell : Nat → (Nat → Int32) → va_E}
abbrev rmL_cell : Room := { frames := 0, cells := 0, slots := 0, locals := 0 }
set_option maxRecDepth 100000 in
set_option maxHeartbeats 4000000 in
theorem c_L_cell (hI : Inj N ad) {L0 : Nat} {q0 : Nat} {x1 : Int32} {w : Wd} {out : Int32} (hq0 : isI N cell cI q0 L0) (hf : m_L_cell L0 q0 x1 w = some out) : Met l yL_cell wsL_cell rmL_cell (va_Pc [.ref (ad q0), .int x1] (PW D (tC cI cL cS) N ad cell w)) (QWi D N ad cell out w) 0 0 (AW N ad) := by
  refine mk_met (maxL := 2) (ret := (some .int)) RL hI (by decide) rfl rfl (Nat.le_of_ble_eq_true rfl) rfl rfl (fun p e s m args below meth c X Y => ?_)
  unfold m_L_cell at hf
  refine j_iload_n X 1 dL_cell_0 rfl rfl ?_
  refine j_aload_n X 0 dL_cell_1 rfl rfl ?_
  refine j_alen X 0 rfl hq0 dL_cell_2 ?_
  refine j_icmp_ge (tgt := 12) X dL_cell_3 (by decide) (fun c => ?_) (fun c => ?_)
  · replace hf := f_t c hf
    refine j_ldc X (v := (40503 : Int32)) (List.mem_of_getElem? (i := 1) rfl) dL_cell_12 ?_
    refine j_iload_n X 1 dL_cell_14 rfl rfl ?_
    refine j_iconst X (v := (nI 3)) (by decide) dL_cell_15 ?_
    refine j_iadd X dL_cell_16 ?_
    refine j_imul X dL_cell_17 ?_
    exact j_iret X Y (f_s hf) rfl dL_cell_18
  replace hf := f_f c hf
  refine j_aload_n X 0 dL_cell_6 rfl rfl ?_
  refine j_iload_n X 1 dL_cell_7 rfl rfl ?_
  obtain ⟨hi1, hf⟩ := f_c hf
  refine j_iald X 0 rfl hq0 hi1 dL_cell_8 ?_
  refine j_goto (tgt := 18) X dL_cell_9 (by decide) ?_
  exact j_iret X Y (f_s hf) rfl dL_cell_18
abbrev rmL_low : Room := { frames := 0, cells := 0, slots := 0, locals := 0 }
set_option maxRecDepth 100000 in
set_option maxHeartbeats 4000000 in
theorem c_L_low (hI : Inj N ad) {x0 : Int32} {x1 : Int32} {w : Wd} {out : Int32} (hf : m_L_low x0 x1 = some out) : Met l yL_low wsL_low rmL_low (va_Pc [.int x0, .int x1] (PW D (tC cI cL cS) N ad cell w)) (QWi D N ad cell out w) 0 0 (AW N ad) := by
  refine mk_met (maxL := 2) (ret := (some .int)) RL hI (by decide) rfl rfl (Nat.le_of_ble_eq_true rfl) rfl rfl (fun p e s m args below meth c X Y => ?_)
  unfold m_L_low at hf
  refine j_iload_n X 0 dL_low_0 rfl rfl ?_
  refine j_ldc X (v := (2147483647 : Int32)) (List.mem_of_getElem? (i := 1) rfl) dL_low_1 ?_
  refine j_iand X dL_low_3 ?_
  refine j_iload_n X 1 dL_low_4 rfl rfl ?_
  obtain ⟨hne1, hf⟩ := f_c2 hf
  refine j_irem X hne1 dL_low_5 ?_
  exact j_iret X Y (f_s hf) rfl dL_low_6
abbrev rmL_serve : Room := { frames := 0, cells := 0, slots := 0, locals := 0 }
set_option maxRecDepth 100000 in
set_option maxHeartbeats 4000000 in
theorem t_L_serve_L6 (X : CX p rmL_serve s m args c cL_serve 9 RL wsL_serve D (tC cI cL cS) N ad) (Y : RX meth none) {q0 : Nat} {q1 : Nat} {q3 : Nat} {x2 : Int32} {x4 : Int32} {kx24 : Wd → Option (Wd)} {out : Wd} (hq0 : isI N cell cI q0 32) (hq1 : isI N cell cI q1 48) (hq3 : isI N cell cI q3 4) (hk_kx24 : ∀  (v : Wd), kx24 v = some out → WJ p l e rmL_serve s m args below meth c (MQ below (QWv D N ad cell out) args s 0 0 (AW N ad)) 9 D N ad cell v 24 [(0, .ref (ad q0)), (1, .ref (ad q1)), (2, .int x2), (3, .ref (ad q3)), (4, .int x4)] []) : ∀ (n : Nat) (x5 : Int32) (w : Wd), m_L_serve_L6 q0 q1 q3 x2 x4 kx24 n x5 w = some out → WJ p l e rmL_serve s m args below meth c (MQ below (QWv D N ad cell out) args s 0 0 (AW N ad)) 9 D N ad cell w 6 [(0, .ref (ad q0)), (1, .ref (ad q1)), (2, .int x2), (3, .ref (ad q3)), (4, .int x4), (5, .int x5)] [] := by
  intro n
  induction n with
  | zero => intro x5 w hf; exact f_n hf
  | succ n ih =>
    intro x5 w hf
    rw [m_L_serve_L6] at hf
    refine j_iload X 5 dL_serve_6 rfl ?_
    refine j_iconst X (v := (nI 4)) (by decide) dL_serve_8 ?_
    refine j_icmp_ge (tgt := 24) X dL_serve_9 (by decide) (fun c => ?_) (fun c => ?_)
    · replace hf := f_t c hf
      refine j_sub [0, 1, 2, 3, 4] rfl ?_
      exact hk_kx24 _ hf
    replace hf := f_f c hf
    refine j_aload_n X 3 dL_serve_12 rfl rfl ?_
    refine j_iload X 5 dL_serve_13 rfl ?_
    refine j_bipush X (v := (nI 12)) (by decide) dL_serve_15 ?_
    obtain ⟨hi1, hf⟩ := f_c hf
    obtain ⟨w2, ew2, hf⟩ := f_lt hf
    refine j_iast X 0 rfl hq3 hi1 dL_serve_17 ew2 ?_
    refine j_iinc (v := (x5 + (nI 1))) (lv' := [(0, .ref (ad q0)), (1, .ref (ad q1)), (2, .int x2), (3, .ref (ad q3)), (4, .int x4), (5, .int (x5 + (nI 1)))]) X 5 dL_serve_18 rfl rfl (by decide) rfl ?_
    refine j_goto (tgt := 6) X dL_serve_21 (by decide) ?_
    exact ih _ _ hf
set_option maxRecDepth 100000 in
set_option maxHeartbeats 4000000 in
theorem t_L_serve_j185 (X : CX p rmL_serve s m args c cL_serve 9 RL wsL_serve D (tC cI cL cS) N ad) (Y : RX meth none) {q0 : Nat} {q1 : Nat} {q3 : Nat} {x2 : Int32} {x5 : Int32} {s0 : Int32} {s1 : Int32} {w : Wd} {kc : Int32 → Int32 → Wd → Option (Wd)} {kx194 : Int32 → Wd → Option (Wd)} {out : Wd} (hq0 : isI N cell cI q0 32) (hq1 : isI N cell cI q1 48) (hq3 : isI N cell cI q3 4) (hf : m_L_serve_j185 q0 q1 q3 x2 x5 s0 s1 w kc kx194 = some out) (hk_kc : ∀ (y4 : Int32) (y5 : Int32) (v : Wd), kc y4 y5 v = some out → WJ p l e rmL_serve s m args below meth c (MQ below (QWv D N ad cell out) args s 0 0 (AW N ad)) 9 D N ad cell v 37 [(0, .ref (ad q0)), (1, .ref (ad q1)), (2, .int x2), (3, .ref (ad q3)), (4, .int y4), (5, .int y5)] []) (hk_kx194 : ∀ (y4 : Int32) (v : Wd), kx194 y4 v = some out → WJ p l e rmL_serve s m args below meth c (MQ below (QWv D N ad cell out) args s 0 0 (AW N ad)) 9 D N ad cell v 194 [(0, .ref (ad q0)), (1, .ref (ad q1)), (2, .int x2), (3, .ref (ad q3)), (4, .int y4)] []) : WJ p l e rmL_serve s m args below meth c (MQ below (QWv D N ad cell out) args s 0 0 (AW N ad)) 9 D N ad cell w 185 [(0, .ref (ad q0)), (1, .ref (ad q1)), (2, .int x2), (3, .ref (ad q3)), (5, .int x5)] [.int s1, .int s0] := by
  unfold m_L_serve_j185 at hf
  refine j_iadd X dL_serve_185 ?_
  obtain ⟨x4_1, ex4_1, hf⟩ := f_lt hf
  refine j_top ex4_1 ?_
  refine j_istore (lv' := [(0, .ref (ad q0)), (1, .ref (ad q1)), (2, .int x2), (3, .ref (ad q3)), (4, .int x4_1), (5, .int x5)]) X dL_serve_186 (by decide) rfl ?_
  refine j_iinc (v := (x5 + (nI 1))) (lv' := [(0, .ref (ad q0)), (1, .ref (ad q1)), (2, .int x2), (3, .ref (ad q3)), (4, .int x4_1), (5, .int (x5 + (nI 1)))]) X 5 dL_serve_188 rfl rfl (by decide) rfl ?_
  refine j_goto (tgt := 37) X dL_serve_191 (by decide) ?_
  exact hk_kc _ _ _ hf
set_option maxRecDepth 100000 in
set_option maxHeartbeats 4000000 in
theorem t_L_serve_j172 (X : CX p rmL_serve s m args c cL_serve 9 RL wsL_serve D (tC cI cL cS) N ad) (Y : RX meth none) {q0 : Nat} {q1 : Nat} {q3 : Nat} {r0 : Nat} {x2 : Int32} {x4 : Int32} {x5 : Int32} {x8 : Int32} {s1 : Int32} {s2 : Int32} {w : Wd} {kc : Int32 → Int32 → Wd → Option (Wd)} {kx194 : Int32 → Wd → Option (Wd)} {out : Wd} (hq0 : isI N cell cI q0 32) (hq1 : isI N cell cI q1 48) (hq3 : isI N cell cI q3 4) (hr0 : isI N cell cI r0 4) (hf : m_L_serve_j172 q0 q1 q3 r0 x2 x4 x5 x8 s1 s2 w kc kx194 = some out) (hk_kc : ∀ (y4 : Int32) (y5 : Int32) (v : Wd), kc y4 y5 v = some out → WJ p l e rmL_serve s m args below meth c (MQ below (QWv D N ad cell out) args s 0 0 (AW N ad)) 9 D N ad cell v 37 [(0, .ref (ad q0)), (1, .ref (ad q1)), (2, .int x2), (3, .ref (ad q3)), (4, .int y4), (5, .int y5)] []) (hk_kx194 : ∀ (y4 : Int32) (v : Wd), kx194 y4 v = some out → WJ p l e rmL_serve s m args below meth c (MQ below (QWv D N ad cell out) args s 0 0 (AW N ad)) 9 D N ad cell v 194 [(0, .ref (ad q0)), (1, .ref (ad q1)), (2, .int x2), (3, .ref (ad q3)), (4, .int y4)] []) : WJ p l e rmL_serve s m args below meth c (MQ below (QWv D N ad cell out) args s 0 0 (AW N ad)) 9 D N ad cell w 172 [(0, .ref (ad q0)), (1, .ref (ad q1)), (2, .int x2), (3, .ref (ad q3)), (4, .int x4), (5, .int x5), (8, .int x8)] [.int s2, .int s1, .ref (ad r0)] := by
  unfold m_L_serve_j172 at hf
  obtain ⟨hi1, hf⟩ := f_c hf
  obtain ⟨w2, ew2, hf⟩ := f_lt hf
  refine j_iast X 0 rfl hr0 hi1 dL_serve_172 ew2 ?_
  refine j_iload X 4 dL_serve_173 rfl ?_
  refine j_iload X 6 dL_serve_175 rfl ?_
  refine j_if_eq (tgt := 184) X dL_serve_177 (by decide) (fun c => ?_) (fun c => ?_)
  · replace hf := f_t c hf
    refine j_iconst X (v := (nI 0)) (by decide) dL_serve_184 ?_
    refine j_sub [0, 1, 2, 3, 5] rfl ?_
    exact t_L_serve_j185 X Y hq0 hq1 hq3 hf hk_kc hk_kx194
  replace hf := f_f c hf
  refine j_iconst X (v := (nI 1)) (by decide) dL_serve_180 ?_
  refine j_goto (tgt := 185) X dL_serve_181 (by decide) ?_
  refine j_sub [0, 1, 2, 3, 5] rfl ?_
  exact t_L_serve_j185 X Y hq0 hq1 hq3 hf hk_kc hk_kx194
set_option maxRecDepth 100000 in
set_option maxHeartbeats 4000000 in
theorem t_L_serve_j151 (X : CX p rmL_serve s m args c cL_serve 9 RL wsL_serve D (tC cI cL cS) N ad) (Y : RX meth none) {q0 : Nat} {q1 : Nat} {q3 : Nat} {x2 : Int32} {x4 : Int32} {x5 : Int32} {x6 : Int32} {x7 : Int32} {s0 : Int32} {w : Wd} {kc : Int32 → Int32 → Wd → Option (Wd)} {kx194 : Int32 → Wd → Option (Wd)} {out : Wd} (hq0 : isI N cell cI q0 32) (hq1 : isI N cell cI q1 48) (hq3 : isI N cell cI q3 4) (hf : m_L_serve_j151 q0 q1 q3 x2 x4 x5 x6 x7 s0 w kc kx194 = some out) (hk_kc : ∀ (y4 : Int32) (y5 : Int32) (v : Wd), kc y4 y5 v = some out → WJ p l e rmL_serve s m args below meth c (MQ below (QWv D N ad cell out) args s 0 0 (AW N ad)) 9 D N ad cell v 37 [(0, .ref (ad q0)), (1, .ref (ad q1)), (2, .int x2), (3, .ref (ad q3)), (4, .int y4), (5, .int y5)] []) (hk_kx194 : ∀ (y4 : Int32) (v : Wd), kx194 y4 v = some out → WJ p l e rmL_serve s m args below meth c (MQ below (QWv D N ad cell out) args s 0 0 (AW N ad)) 9 D N ad cell v 194 [(0, .ref (ad q0)), (1, .ref (ad q1)), (2, .int x2), (3, .ref (ad q3)), (4, .int y4)] []) : WJ p l e rmL_serve s m args below meth c (MQ below (QWv D N ad cell out) args s 0 0 (AW N ad)) 9 D N ad cell w 151 [(0, .ref (ad q0)), (1, .ref (ad q1)), (2, .int x2), (3, .ref (ad q3)), (4, .int x4), (5, .int x5), (6, .int x6), (7, .int x7)] [.int s0] := by
  unfold m_L_serve_j151 at hf
  refine j_istore (lv' := [(0, .ref (ad q0)), (1, .ref (ad q1)), (2, .int x2), (3, .ref (ad q3)), (4, .int x4), (5, .int x5), (6, .int x6), (7, .int x7), (8, .int s0)]) X dL_serve_151 (by decide) rfl ?_
  refine j_aload_n X 3 dL_serve_153 rfl rfl ?_
  refine j_iload X 6 dL_serve_154 rfl ?_
  refine j_iload X 8 dL_serve_156 rfl ?_
  refine j_if_eq (tgt := 168) X dL_serve_158 (by decide) (fun c => ?_) (fun c => ?_)
  · replace hf := f_t c hf
    refine j_iload X 7 dL_serve_168 rfl ?_
    refine j_iconst X (v := (nI 1)) (by decide) dL_serve_170 ?_
    refine j_isub X dL_serve_171 ?_
    refine j_sub [0, 1, 2, 3, 4, 5, 8] rfl ?_
    exact t_L_serve_j172 X Y hq0 hq1 hq3 hq3 hf hk_kc hk_kx194
  replace hf := f_f c hf
  refine j_aload_n X 3 dL_serve_161 rfl rfl ?_
  refine j_iload X 6 dL_serve_162 rfl ?_
  obtain ⟨hi1, hf⟩ := f_c hf
  refine j_iald X 0 rfl hq3 hi1 dL_serve_164 ?_
  refine j_goto (tgt := 172) X dL_serve_165 (by decide) ?_
  refine j_sub [0, 1, 2, 3, 4, 5, 8] rfl ?_
  exact t_L_serve_j172 X Y hq0 hq1 hq3 hq3 hf hk_kc hk_kx194
set_option maxRecDepth 100000 in
set_option maxHeartbeats 4000000 in
theorem t_L_serve_j146 (X : CX p rmL_serve s m args c cL_serve 9 RL wsL_serve D (tC cI cL cS) N ad) (Y : RX meth none) {q0 : Nat} {q1 : Nat} {q3 : Nat} {x2 : Int32} {x4 : Int32} {x5 : Int32} {x6 : Int32} {x7 : Int32} {w : Wd} {kc : Int32 → Int32 → Wd → Option (Wd)} {kx194 : Int32 → Wd → Option (Wd)} {out : Wd} (hq0 : isI N cell cI q0 32) (hq1 : isI N cell cI q1 48) (hq3 : isI N cell cI q3 4) (hf : m_L_serve_j146 q0 q1 q3 x2 x4 x5 x6 x7 w kc kx194 = some out) (hk_kc : ∀ (y4 : Int32) (y5 : Int32) (v : Wd), kc y4 y5 v = some out → WJ p l e rmL_serve s m args below meth c (MQ below (QWv D N ad cell out) args s 0 0 (AW N ad)) 9 D N ad cell v 37 [(0, .ref (ad q0)), (1, .ref (ad q1)), (2, .int x2), (3, .ref (ad q3)), (4, .int y4), (5, .int y5)] []) (hk_kx194 : ∀ (y4 : Int32) (v : Wd), kx194 y4 v = some out → WJ p l e rmL_serve s m args below meth c (MQ below (QWv D N ad cell out) args s 0 0 (AW N ad)) 9 D N ad cell v 194 [(0, .ref (ad q0)), (1, .ref (ad q1)), (2, .int x2), (3, .ref (ad q3)), (4, .int y4)] []) : WJ p l e rmL_serve s m args below meth c (MQ below (QWv D N ad cell out) args s 0 0 (AW N ad)) 9 D N ad cell w 146 [(0, .ref (ad q0)), (1, .ref (ad q1)), (2, .int x2), (3, .ref (ad q3)), (4, .int x4), (5, .int x5), (6, .int x6), (7, .int x7)] [] := by
  unfold m_L_serve_j146 at hf
  refine j_iconst X (v := (nI 1)) (by decide) dL_serve_146 ?_
  refine j_goto (tgt := 151) X dL_serve_147 (by decide) ?_
  exact t_L_serve_j151 X Y hq0 hq1 hq3 hf hk_kc hk_kx194
set_option maxRecDepth 100000 in
set_option maxHeartbeats 4000000 in
theorem t_L_serve_j150 (X : CX p rmL_serve s m args c cL_serve 9 RL wsL_serve D (tC cI cL cS) N ad) (Y : RX meth none) {q0 : Nat} {q1 : Nat} {q3 : Nat} {x2 : Int32} {x4 : Int32} {x5 : Int32} {x6 : Int32} {x7 : Int32} {w : Wd} {kc : Int32 → Int32 → Wd → Option (Wd)} {kx194 : Int32 → Wd → Option (Wd)} {out : Wd} (hq0 : isI N cell cI q0 32) (hq1 : isI N cell cI q1 48) (hq3 : isI N cell cI q3 4) (hf : m_L_serve_j150 q0 q1 q3 x2 x4 x5 x6 x7 w kc kx194 = some out) (hk_kc : ∀ (y4 : Int32) (y5 : Int32) (v : Wd), kc y4 y5 v = some out → WJ p l e rmL_serve s m args below meth c (MQ below (QWv D N ad cell out) args s 0 0 (AW N ad)) 9 D N ad cell v 37 [(0, .ref (ad q0)), (1, .ref (ad q1)), (2, .int x2), (3, .ref (ad q3)), (4, .int y4), (5, .int y5)] []) (hk_kx194 : ∀ (y4 : Int32) (v : Wd), kx194 y4 v = some out → WJ p l e rmL_serve s m args below meth c (MQ below (QWv D N ad cell out) args s 0 0 (AW N ad)) 9 D N ad cell v 194 [(0, .ref (ad q0)), (1, .ref (ad q1)), (2, .int x2), (3, .ref (ad q3)), (4, .int y4)] []) : WJ p l e rmL_serve s m args below meth c (MQ below (QWv D N ad cell out) args s 0 0 (AW N ad)) 9 D N ad cell w 150 [(0, .ref (ad q0)), (1, .ref (ad q1)), (2, .int x2), (3, .ref (ad q3)), (4, .int x4), (5, .int x5), (6, .int x6), (7, .int x7)] [] := by
  unfold m_L_serve_j150 at hf
  refine j_iconst X (v := (nI 0)) (by decide) dL_serve_150 ?_
  exact t_L_serve_j151 X Y hq0 hq1 hq3 hf hk_kc hk_kx194
set_option maxRecDepth 100000 in
set_option maxHeartbeats 4000000 in
theorem t_L_serve_L37 (X : CX p rmL_serve s m args c cL_serve 9 RL wsL_serve D (tC cI cL cS) N ad) (Y : RX meth none) {q0 : Nat} {q1 : Nat} {q3 : Nat} {x2 : Int32} {kx194 : Int32 → Wd → Option (Wd)} {out : Wd} (hq0 : isI N cell cI q0 32) (hq1 : isI N cell cI q1 48) (hq3 : isI N cell cI q3 4) (hk_kx194 : ∀ (y4 : Int32) (v : Wd), kx194 y4 v = some out → WJ p l e rmL_serve s m args below meth c (MQ below (QWv D N ad cell out) args s 0 0 (AW N ad)) 9 D N ad cell v 194 [(0, .ref (ad q0)), (1, .ref (ad q1)), (2, .int x2), (3, .ref (ad q3)), (4, .int y4)] []) : ∀ (n : Nat) (x4 : Int32) (x5 : Int32) (w : Wd), m_L_serve_L37 q0 q1 q3 x2 kx194 n x4 x5 w = some out → WJ p l e rmL_serve s m args below meth c (MQ below (QWv D N ad cell out) args s 0 0 (AW N ad)) 9 D N ad cell w 37 [(0, .ref (ad q0)), (1, .ref (ad q1)), (2, .int x2), (3, .ref (ad q3)), (4, .int x4), (5, .int x5)] [] := by
  intro n
  induction n with
  | zero => intro x4 x5 w hf; exact f_n hf
  | succ n ih =>
    intro x4 x5 w hf
    rw [m_L_serve_L37] at hf
    refine j_iload X 5 dL_serve_37 rfl ?_
    refine j_bipush X (v := (nI 48)) (by decide) dL_serve_39 ?_
    refine j_icmp_ge (tgt := 194) X dL_serve_41 (by decide) (fun c => ?_) (fun c => ?_)
    · replace hf := f_t c hf
      refine j_sub [0, 1, 2, 3, 4] rfl ?_
      exact hk_kx194 _ _ hf
    replace hf := f_f c hf
    refine j_iload X 5 dL_serve_44 rfl ?_
    refine j_bipush X (v := (nI 12)) (by decide) dL_serve_46 ?_
    refine j_idiv X (by decide) dL_serve_48 ?_
    obtain ⟨x6_1, ex6_1, hf⟩ := f_lt hf
    refine j_top ex6_1 ?_
    refine j_istore (lv' := [(0, .ref (ad q0)), (1, .ref (ad q1)), (2, .int x2), (3, .ref (ad q3)), (4, .int x4), (5, .int x5), (6, .int x6_1)]) X dL_serve_49 (by decide) rfl ?_
    refine j_iload X 5 dL_serve_51 rfl ?_
    refine j_bipush X (v := (nI 12)) (by decide) dL_serve_53 ?_
    refine j_irem X (by decide) dL_serve_55 ?_
    refine j_iconst X (v := (nI 1)) (by decide) dL_serve_56 ?_
    refine j_iadd X dL_serve_57 ?_
    obtain ⟨x7_2, ex7_2, hf⟩ := f_lt hf
    refine j_top ex7_2 ?_
    refine j_istore (lv' := [(0, .ref (ad q0)), (1, .ref (ad q1)), (2, .int x2), (3, .ref (ad q3)), (4, .int x4), (5, .int x5), (6, .int x6_1), (7, .int x7_2)]) X dL_serve_58 (by decide) rfl ?_
    refine j_iload X 7 dL_serve_60 rfl ?_
    refine j_aload_n X 3 dL_serve_62 rfl rfl ?_
    refine j_iload X 6 dL_serve_63 rfl ?_
    obtain ⟨hi3, hf⟩ := f_c hf
    refine j_iald X 0 rfl hq3 hi3 dL_serve_65 ?_
    refine j_icmp_gt (tgt := 146) X dL_serve_66 (by decide) (fun c => ?_) (fun c => ?_)
    · replace hf := f_t c hf
      exact t_L_serve_j146 X Y hq0 hq1 hq3 hf ih hk_kx194
    replace hf := f_f c hf
    refine j_aload_n X 0 dL_serve_69 rfl rfl ?_
    refine j_iconst X (v := (nI 4)) (by decide) dL_serve_70 ?_
    refine j_iload_n X 2 dL_serve_71 rfl rfl ?_
    refine j_imul X dL_serve_72 ?_
    refine j_iload X 6 dL_serve_73 rfl ?_
    refine j_iadd X dL_serve_75 ?_
    obtain ⟨hi4, hf⟩ := f_c hf
    refine j_iald X 0 rfl hq0 hi4 dL_serve_76 ?_
    refine j_iload X 7 dL_serve_77 rfl ?_
    refine j_ishr X dL_serve_79 ?_
    refine j_iconst X (v := (nI 1)) (by decide) dL_serve_80 ?_
    refine j_iand X dL_serve_81 ?_
    refine j_iconst X (v := (nI 1)) (by decide) dL_serve_82 ?_
    refine j_icmp_ne (tgt := 150) X dL_serve_83 (by decide) (fun c => ?_) (fun c => ?_)
    · replace hf := f_t c hf
      exact t_L_serve_j150 X Y hq0 hq1 hq3 hf ih hk_kx194
    replace hf := f_fn c hf
    refine j_aload_n X 1 dL_serve_86 rfl rfl ?_
    refine j_iload X 5 dL_serve_87 rfl ?_
    obtain ⟨hi5, hf⟩ := f_c hf
    refine j_iald X 0 rfl hq1 hi5 dL_serve_89 ?_
    refine j_bipush X (v := (nI 31)) (by decide) dL_serve_90 ?_
    refine j_iand X dL_serve_92 ?_
    refine j_aload_n X 3 dL_serve_93 rfl rfl ?_
    refine j_iconst X (v := (nI 0)) (by decide) dL_serve_94 ?_
    obtain ⟨hi6, hf⟩ := f_c hf
    refine j_iald X 0 rfl hq3 hi6 dL_serve_95 ?_
    refine j_icmp_gt (tgt := 150) X dL_serve_96 (by decide) (fun c => ?_) (fun c => ?_)
    · replace hf := f_t c hf
      exact t_L_serve_j150 X Y hq0 hq1 hq3 hf ih hk_kx194
    replace hf := f_f c hf
    refine j_aload_n X 1 dL_serve_99 rfl rfl ?_
    refine j_iload X 5 dL_serve_100 rfl ?_
    obtain ⟨hi7, hf⟩ := f_c hf
    refine j_iald X 0 rfl hq1 hi7 dL_serve_102 ?_
    refine j_iconst X (v := (nI 5)) (by decide) dL_serve_103 ?_
    refine j_ishr X dL_serve_104 ?_
    refine j_bipush X (v := (nI 31)) (by decide) dL_serve_105 ?_
    refine j_iand X dL_serve_107 ?_
    refine j_aload_n X 3 dL_serve_108 rfl rfl ?_
    refine j_iconst X (v := (nI 1)) (by decide) dL_serve_109 ?_
    obtain ⟨hi8, hf⟩ := f_c hf
    refine j_iald X 0 rfl hq3 hi8 dL_serve_110 ?_
    refine j_icmp_gt (tgt := 150) X dL_serve_111 (by decide) (fun c => ?_) (fun c => ?_)
    · replace hf := f_t c hf
      exact t_L_serve_j150 X Y hq0 hq1 hq3 hf ih hk_kx194
    replace hf := f_f c hf
    refine j_aload_n X 1 dL_serve_114 rfl rfl ?_
    refine j_iload X 5 dL_serve_115 rfl ?_
    obtain ⟨hi9, hf⟩ := f_c hf
    refine j_iald X 0 rfl hq1 hi9 dL_serve_117 ?_
    refine j_bipush X (v := (nI 10)) (by decide) dL_serve_118 ?_
    refine j_ishr X dL_serve_120 ?_
    refine j_bipush X (v := (nI 31)) (by decide) dL_serve_121 ?_
    refine j_iand X dL_serve_123 ?_
    refine j_aload_n X 3 dL_serve_124 rfl rfl ?_
    refine j_iconst X (v := (nI 2)) (by decide) dL_serve_125 ?_
    obtain ⟨hi10, hf⟩ := f_c hf
    refine j_iald X 0 rfl hq3 hi10 dL_serve_126 ?_
    refine j_icmp_gt (tgt := 150) X dL_serve_127 (by decide) (fun c => ?_) (fun c => ?_)
    · replace hf := f_t c hf
      exact t_L_serve_j150 X Y hq0 hq1 hq3 hf ih hk_kx194
    replace hf := f_f c hf
    refine j_aload_n X 1 dL_serve_130 rfl rfl ?_
    refine j_iload X 5 dL_serve_131 rfl ?_
    obtain ⟨hi11, hf⟩ := f_c hf
    refine j_iald X 0 rfl hq1 hi11 dL_serve_133 ?_
    refine j_bipush X (v := (nI 15)) (by decide) dL_serve_134 ?_
    refine j_ishr X dL_serve_136 ?_
    refine j_bipush X (v := (nI 31)) (by decide) dL_serve_137 ?_
    refine j_iand X dL_serve_139 ?_
    refine j_aload_n X 3 dL_serve_140 rfl rfl ?_
    refine j_iconst X (v := (nI 3)) (by decide) dL_serve_141 ?_
    obtain ⟨hi12, hf⟩ := f_c hf
    refine j_iald X 0 rfl hq3 hi12 dL_serve_142 ?_
    refine j_icmp_gt (tgt := 150) X dL_serve_143 (by decide) (fun c => ?_) (fun c => ?_)
    · replace hf := f_t c hf
      exact t_L_serve_j150 X Y hq0 hq1 hq3 hf ih hk_kx194
    replace hf := f_f c hf
    exact t_L_serve_j146 X Y hq0 hq1 hq3 hf ih hk_kx194
set_option maxRecDepth 100000 in
set_option maxHeartbeats 4000000 in
theorem t_L_serve_L24 (X : CX p rmL_serve s m args c cL_serve 9 RL wsL_serve D (tC cI cL cS) N ad) (Y : RX meth none) {q0 : Nat} {q1 : Nat} {q3 : Nat} {x2 : Int32} {out : Wd} (hq0 : isI N cell cI q0 32) (hq1 : isI N cell cI q1 48) (hq3 : isI N cell cI q3 4) : ∀ (n : Nat) (x4 : Int32) (w : Wd), m_L_serve_L24 q0 q1 q3 x2 n x4 w = some out → WJ p l e rmL_serve s m args below meth c (MQ below (QWv D N ad cell out) args s 0 0 (AW N ad)) 9 D N ad cell w 24 [(0, .ref (ad q0)), (1, .ref (ad q1)), (2, .int x2), (3, .ref (ad q3)), (4, .int x4)] [] := by
  intro n
  induction n with
  | zero => intro x4 w hf; exact f_n hf
  | succ n ih =>
    intro x4 w hf
    rw [m_L_serve_L24] at hf
    refine j_iload X 4 dL_serve_24 rfl ?_
    refine j_bipush X (v := (nI 48)) (by decide) dL_serve_26 ?_
    refine j_icmp_ge (tgt := 197) X dL_serve_28 (by decide) (fun c => ?_) (fun c => ?_)
    · replace hf := f_t c hf
      exact j_vret X Y (f_s hf) dL_serve_197
    replace hf := f_f c hf
    refine j_iconst X (v := (nI 0)) (by decide) dL_serve_31 ?_
    refine j_istore (lv' := [(0, .ref (ad q0)), (1, .ref (ad q1)), (2, .int x2), (3, .ref (ad q3)), (4, .int (nI 0))]) X dL_serve_32 (by decide) rfl ?_
    refine j_iconst X (v := (nI 0)) (by decide) dL_serve_34 ?_
    refine j_istore (lv' := [(0, .ref (ad q0)), (1, .ref (ad q1)), (2, .int x2), (3, .ref (ad q3)), (4, .int (nI 0)), (5, .int (nI 0))]) X dL_serve_35 (by decide) rfl ?_
    refine t_L_serve_L37 X Y hq0 hq1 hq3 ?_ _ _ _ _ hf
    intro x4_1 w2 hf
    refine j_goto (tgt := 24) X dL_serve_194 (by decide) ?_
    exact ih _ _ hf
set_option maxRecDepth 100000 in
set_option maxHeartbeats 4000000 in
theorem c_L_serve (hI : Inj N ad) {q0 : Nat} {q1 : Nat} {q3 : Nat} {x2 : Int32} {w : Wd} {out : Wd} (hq0 : isI N cell cI q0 32) (hq1 : isI N cell cI q1 48) (hq3 : isI N cell cI q3 4) (hf : m_L_serve q0 q1 q3 x2 w = some out) : Met l yL_serve wsL_serve rmL_serve (va_Pc [.ref (ad q0), .ref (ad q1), .int x2, .ref (ad q3)] (PW D (tC cI cL cS) N ad cell w)) (QWv D N ad cell out) 0 0 (AW N ad) := by
  refine mk_met (maxL := 9) (ret := none) RL hI (by decide) rfl rfl (Nat.le_of_ble_eq_true rfl) rfl rfl (fun p e s m args below meth c X Y => ?_)
  unfold m_L_serve at hf
  refine j_iconst X (v := (nI 0)) (by decide) dL_serve_0 ?_
  refine j_istore (lv' := [(0, .ref (ad q0)), (1, .ref (ad q1)), (2, .int x2), (3, .ref (ad q3)), (4, .int (nI 0))]) X dL_serve_1 (by decide) rfl ?_
  refine j_iconst X (v := (nI 0)) (by decide) dL_serve_3 ?_
  refine j_istore (lv' := [(0, .ref (ad q0)), (1, .ref (ad q1)), (2, .int x2), (3, .ref (ad q3)), (4, .int (nI 0)), (5, .int (nI 0))]) X dL_serve_4 (by decide) rfl ?_
  refine t_L_serve_L6 X Y hq0 hq1 hq3 ?_ _ _ _ hf
  intro w1 hf
  refine t_L_serve_L24 X Y hq0 hq1 hq3 _ _ _ hf
abbrev rmL_ranges : Room := { frames := 0, cells := 0, slots := 0, locals := 0 }
set_option maxRecDepth 100000 in
set_option maxHeartbeats 4000000 in
theorem t_L_ranges_j102 (X : CX p rmL_ranges s m args c cL_ranges 8 RL wsL_ranges D (tC cI cL cS) N ad) (Y : RX meth (some .int)) {q0 : Nat} {x1 : Int32} {x2 : Int32} {x3 : Int32} {x5 : Int32} {s0 : Int32} {w : Wd} {kc : Int32 → Int32 → Int32 → Option (Int32)} {kx110 : Int32 → Option (Int32)} {out : Int32} (hq0 : isI N cell cI q0 32) (hf : m_L_ranges_j102 q0 x1 x2 x3 x5 s0 w kc kx110 = some out) (hk_kc : ∀ (y2 : Int32) (y4 : Int32) (y5 : Int32), kc y2 y4 y5 = some out → WJ p l e rmL_ranges s m args below meth c (MQ below (QWi D N ad cell out w) args s 0 0 (AW N ad)) 8 D N ad cell w 16 [(0, .ref (ad q0)), (1, .int x1), (2, .int y2), (3, .int x3), (4, .int y4), (5, .int y5)] []) (hk_kx110 : ∀ (y2 : Int32), kx110 y2 = some out → WJ p l e rmL_ranges s m args below meth c (MQ below (QWi D N ad cell out w) args s 0 0 (AW N ad)) 8 D N ad cell w 110 [(0, .ref (ad q0)), (1, .int x1), (2, .int y2), (3, .int x3)] []) : WJ p l e rmL_ranges s m args below meth c (MQ below (QWi D N ad cell out w) args s 0 0 (AW N ad)) 8 D N ad cell w 102 [(0, .ref (ad q0)), (1, .int x1), (2, .int x2), (3, .int x3), (5, .int x5)] [.int s0] := by
  unfold m_L_ranges_j102 at hf
  refine j_istore (lv' := [(0, .ref (ad q0)), (1, .int x1), (2, .int x2), (3, .int x3), (4, .int s0), (5, .int x5)]) X dL_ranges_102 (by decide) rfl ?_
  refine j_iinc (v := (x5 + (-1 : Int32))) (lv' := [(0, .ref (ad q0)), (1, .int x1), (2, .int x2), (3, .int x3), (4, .int s0), (5, .int (x5 + (-1 : Int32)))]) X 5 dL_ranges_104 rfl rfl (by decide) rfl ?_
  refine j_goto (tgt := 16) X dL_ranges_107 (by decide) ?_
  exact hk_kc _ _ _ hf
set_option maxRecDepth 100000 in
set_option maxHeartbeats 4000000 in
theorem t_L_ranges_j101 (X : CX p rmL_ranges s m args c cL_ranges 8 RL wsL_ranges D (tC cI cL cS) N ad) (Y : RX meth (some .int)) {q0 : Nat} {x1 : Int32} {x2 : Int32} {x3 : Int32} {x5 : Int32} {w : Wd} {kc : Int32 → Int32 → Int32 → Option (Int32)} {kx110 : Int32 → Option (Int32)} {out : Int32} (hq0 : isI N cell cI q0 32) (hf : m_L_ranges_j101 q0 x1 x2 x3 x5 w kc kx110 = some out) (hk_kc : ∀ (y2 : Int32) (y4 : Int32) (y5 : Int32), kc y2 y4 y5 = some out → WJ p l e rmL_ranges s m args below meth c (MQ below (QWi D N ad cell out w) args s 0 0 (AW N ad)) 8 D N ad cell w 16 [(0, .ref (ad q0)), (1, .int x1), (2, .int y2), (3, .int x3), (4, .int y4), (5, .int y5)] []) (hk_kx110 : ∀ (y2 : Int32), kx110 y2 = some out → WJ p l e rmL_ranges s m args below meth c (MQ below (QWi D N ad cell out w) args s 0 0 (AW N ad)) 8 D N ad cell w 110 [(0, .ref (ad q0)), (1, .int x1), (2, .int y2), (3, .int x3)] []) : WJ p l e rmL_ranges s m args below meth c (MQ below (QWi D N ad cell out w) args s 0 0 (AW N ad)) 8 D N ad cell w 101 [(0, .ref (ad q0)), (1, .int x1), (2, .int x2), (3, .int x3), (5, .int x5)] [] := by
  unfold m_L_ranges_j101 at hf
  refine j_iconst X (v := (nI 0)) (by decide) dL_ranges_101 ?_
  exact t_L_ranges_j102 X Y hq0 hf hk_kc hk_kx110
set_option maxRecDepth 100000 in
set_option maxHeartbeats 4000000 in
theorem t_L_ranges_j85 (X : CX p rmL_ranges s m args c cL_ranges 8 RL wsL_ranges D (tC cI cL cS) N ad) (Y : RX meth (some .int)) {q0 : Nat} {x1 : Int32} {x3 : Int32} {x5 : Int32} {x6 : Int32} {x7 : Int32} {s0 : Int32} {s1 : Int32} {w : Wd} {kc : Int32 → Int32 → Int32 → Option (Int32)} {kx110 : Int32 → Option (Int32)} {out : Int32} (hq0 : isI N cell cI q0 32) (hf : m_L_ranges_j85 q0 x1 x3 x5 x6 x7 s0 s1 w kc kx110 = some out) (hk_kc : ∀ (y2 : Int32) (y4 : Int32) (y5 : Int32), kc y2 y4 y5 = some out → WJ p l e rmL_ranges s m args below meth c (MQ below (QWi D N ad cell out w) args s 0 0 (AW N ad)) 8 D N ad cell w 16 [(0, .ref (ad q0)), (1, .int x1), (2, .int y2), (3, .int x3), (4, .int y4), (5, .int y5)] []) (hk_kx110 : ∀ (y2 : Int32), kx110 y2 = some out → WJ p l e rmL_ranges s m args below meth c (MQ below (QWi D N ad cell out w) args s 0 0 (AW N ad)) 8 D N ad cell w 110 [(0, .ref (ad q0)), (1, .int x1), (2, .int y2), (3, .int x3)] []) : WJ p l e rmL_ranges s m args below meth c (MQ below (QWi D N ad cell out w) args s 0 0 (AW N ad)) 8 D N ad cell w 85 [(0, .ref (ad q0)), (1, .int x1), (3, .int x3), (5, .int x5), (6, .int x6), (7, .int x7)] [.int s1, .int s0] := by
  unfold m_L_ranges_j85 at hf
  refine j_iadd X dL_ranges_85 ?_
  obtain ⟨x2_1, ex2_1, hf⟩ := f_lt hf
  refine j_top ex2_1 ?_
  refine j_istore_n (lv' := [(0, .ref (ad q0)), (1, .int x1), (2, .int x2_1), (3, .int x3), (5, .int x5), (6, .int x6), (7, .int x7)]) X dL_ranges_86 rfl (by decide) rfl ?_
  refine j_iload X 6 dL_ranges_87 rfl ?_
  refine j_if_eq (tgt := 101) X dL_ranges_89 (by decide) (fun c => ?_) (fun c => ?_)
  · replace hf := f_t c hf
    refine j_sub [0, 1, 2, 3, 4] rfl ?_
    exact t_L_ranges_j101 X Y hq0 hf hk_kc hk_kx110
  replace hf := f_f c hf
  refine j_iload X 5 dL_ranges_92 rfl ?_
  refine j_if_ne (tgt := 101) X dL_ranges_94 (by decide) (fun c => ?_) (fun c => ?_)
  · replace hf := f_t c hf
    refine j_sub [0, 1, 2, 3, 4] rfl ?_
    exact t_L_ranges_j101 X Y hq0 hf hk_kc hk_kx110
  replace hf := f_fn c hf
  refine j_iconst X (v := (nI 1)) (by decide) dL_ranges_97 ?_
  refine j_goto (tgt := 102) X dL_ranges_98 (by decide) ?_
  refine j_sub [0, 1, 2, 3, 4] rfl ?_
  exact t_L_ranges_j102 X Y hq0 hf hk_kc hk_kx110
set_option maxRecDepth 100000 in
set_option maxHeartbeats 4000000 in
theorem t_L_ranges_j84 (X : CX p rmL_ranges s m args c cL_ranges 8 RL wsL_ranges D (tC cI cL cS) N ad) (Y : RX meth (some .int)) {q0 : Nat} {x1 : Int32} {x3 : Int32} {x5 : Int32} {x6 : Int32} {x7 : Int32} {s0 : Int32} {w : Wd} {kc : Int32 → Int32 → Int32 → Option (Int32)} {kx110 : Int32 → Option (Int32)} {out : Int32} (hq0 : isI N cell cI q0 32) (hf : m_L_ranges_j84 q0 x1 x3 x5 x6 x7 s0 w kc kx110 = some out) (hk_kc : ∀ (y2 : Int32) (y4 : Int32) (y5 : Int32), kc y2 y4 y5 = some out → WJ p l e rmL_ranges s m args below meth c (MQ below (QWi D N ad cell out w) args s 0 0 (AW N ad)) 8 D N ad cell w 16 [(0, .ref (ad q0)), (1, .int x1), (2, .int y2), (3, .int x3), (4, .int y4), (5, .int y5)] []) (hk_kx110 : ∀ (y2 : Int32), kx110 y2 = some out → WJ p l e rmL_ranges s m args below meth c (MQ below (QWi D N ad cell out w) args s 0 0 (AW N ad)) 8 D N ad cell w 110 [(0, .ref (ad q0)), (1, .int x1), (2, .int y2), (3, .int x3)] []) : WJ p l e rmL_ranges s m args below meth c (MQ below (QWi D N ad cell out w) args s 0 0 (AW N ad)) 8 D N ad cell w 84 [(0, .ref (ad q0)), (1, .int x1), (3, .int x3), (5, .int x5), (6, .int x6), (7, .int x7)] [.int s0] := by
  unfold m_L_ranges_j84 at hf
  refine j_iconst X (v := (nI 0)) (by decide) dL_ranges_84 ?_
  exact t_L_ranges_j85 X Y hq0 hf hk_kc hk_kx110
set_option maxRecDepth 100000 in
set_option maxHeartbeats 4000000 in
theorem t_L_ranges_j62 (X : CX p rmL_ranges s m args c cL_ranges 8 RL wsL_ranges D (tC cI cL cS) N ad) (Y : RX meth (some .int)) {q0 : Nat} {x1 : Int32} {x2 : Int32} {x3 : Int32} {x4 : Int32} {x5 : Int32} {x6 : Int32} {s0 : Int32} {w : Wd} {kc : Int32 → Int32 → Int32 → Option (Int32)} {kx110 : Int32 → Option (Int32)} {out : Int32} (hq0 : isI N cell cI q0 32) (hf : m_L_ranges_j62 q0 x1 x2 x3 x4 x5 x6 s0 w kc kx110 = some out) (hk_kc : ∀ (y2 : Int32) (y4 : Int32) (y5 : Int32), kc y2 y4 y5 = some out → WJ p l e rmL_ranges s m args below meth c (MQ below (QWi D N ad cell out w) args s 0 0 (AW N ad)) 8 D N ad cell w 16 [(0, .ref (ad q0)), (1, .int x1), (2, .int y2), (3, .int x3), (4, .int y4), (5, .int y5)] []) (hk_kx110 : ∀ (y2 : Int32), kx110 y2 = some out → WJ p l e rmL_ranges s m args below meth c (MQ below (QWi D N ad cell out w) args s 0 0 (AW N ad)) 8 D N ad cell w 110 [(0, .ref (ad q0)), (1, .int x1), (2, .int y2), (3, .int x3)] []) : WJ p l e rmL_ranges s m args below meth c (MQ below (QWi D N ad cell out w) args s 0 0 (AW N ad)) 8 D N ad cell w 62 [(0, .ref (ad q0)), (1, .int x1), (2, .int x2), (3, .int x3), (4, .int x4), (5, .int x5), (6, .int x6)] [.int s0] := by
  unfold m_L_ranges_j62 at hf
  refine j_istore (lv' := [(0, .ref (ad q0)), (1, .int x1), (2, .int x2), (3, .int x3), (4, .int x4), (5, .int x5), (6, .int x6), (7, .int s0)]) X dL_ranges_62 (by decide) rfl ?_
  refine j_iload_n X 2 dL_ranges_64 rfl rfl ?_
  refine j_iload X 7 dL_ranges_65 rfl ?_
  refine j_if_eq (tgt := 84) X dL_ranges_67 (by decide) (fun c => ?_) (fun c => ?_)
  · replace hf := f_t c hf
    refine j_sub [0, 1, 3, 5, 6, 7] rfl ?_
    exact t_L_ranges_j84 X Y hq0 hf hk_kc hk_kx110
  replace hf := f_f c hf
  refine j_iload X 6 dL_ranges_70 rfl ?_
  refine j_if_ne (tgt := 84) X dL_ranges_72 (by decide) (fun c => ?_) (fun c => ?_)
  · replace hf := f_t c hf
    refine j_sub [0, 1, 3, 5, 6, 7] rfl ?_
    exact t_L_ranges_j84 X Y hq0 hf hk_kc hk_kx110
  replace hf := f_fn c hf
  refine j_iload X 4 dL_ranges_75 rfl ?_
  refine j_if_ne (tgt := 84) X dL_ranges_77 (by decide) (fun c => ?_) (fun c => ?_)
  · replace hf := f_t c hf
    refine j_sub [0, 1, 3, 5, 6, 7] rfl ?_
    exact t_L_ranges_j84 X Y hq0 hf hk_kc hk_kx110
  replace hf := f_fn c hf
  refine j_iconst X (v := (nI 1)) (by decide) dL_ranges_80 ?_
  refine j_goto (tgt := 85) X dL_ranges_81 (by decide) ?_
  refine j_sub [0, 1, 3, 5, 6, 7] rfl ?_
  exact t_L_ranges_j85 X Y hq0 hf hk_kc hk_kx110
set_option maxRecDepth 100000 in
set_option maxHeartbeats 4000000 in
theorem t_L_ranges_j42 (X : CX p rmL_ranges s m args c cL_ranges 8 RL wsL_ranges D (tC cI cL cS) N ad) (Y : RX meth (some .int)) {q0 : Nat} {x1 : Int32} {x2 : Int32} {x3 : Int32} {x4 : Int32} {x5 : Int32} {s0 : Int32} {w : Wd} {kc : Int32 → Int32 → Int32 → Option (Int32)} {kx110 : Int32 → Option (Int32)} {out : Int32} (hq0 : isI N cell cI q0 32) (hf : m_L_ranges_j42 q0 x1 x2 x3 x4 x5 s0 w kc kx110 = some out) (hk_kc : ∀ (y2 : Int32) (y4 : Int32) (y5 : Int32), kc y2 y4 y5 = some out → WJ p l e rmL_ranges s m args below meth c (MQ below (QWi D N ad cell out w) args s 0 0 (AW N ad)) 8 D N ad cell w 16 [(0, .ref (ad q0)), (1, .int x1), (2, .int y2), (3, .int x3), (4, .int y4), (5, .int y5)] []) (hk_kx110 : ∀ (y2 : Int32), kx110 y2 = some out → WJ p l e rmL_ranges s m args below meth c (MQ below (QWi D N ad cell out w) args s 0 0 (AW N ad)) 8 D N ad cell w 110 [(0, .ref (ad q0)), (1, .int x1), (2, .int y2), (3, .int x3)] []) : WJ p l e rmL_ranges s m args below meth c (MQ below (QWi D N ad cell out w) args s 0 0 (AW N ad)) 8 D N ad cell w 42 [(0, .ref (ad q0)), (1, .int x1), (2, .int x2), (3, .int x3), (4, .int x4), (5, .int x5)] [.int s0] := by
  unfold m_L_ranges_j42 at hf
  refine j_istore (lv' := [(0, .ref (ad q0)), (1, .int x1), (2, .int x2), (3, .int x3), (4, .int x4), (5, .int x5), (6, .int s0)]) X dL_ranges_42 (by decide) rfl ?_
  refine j_aload_n X 0 dL_ranges_44 rfl rfl ?_
  refine j_iconst X (v := (nI 4)) (by decide) dL_ranges_45 ?_
  refine j_iload_n X 1 dL_ranges_46 rfl rfl ?_
  refine j_imul X dL_ranges_47 ?_
  refine j_iload_n X 3 dL_ranges_48 rfl rfl ?_
  refine j_iadd X dL_ranges_49 ?_
  obtain ⟨hi1, hf⟩ := f_c hf
  refine j_iald X 0 rfl hq0 hi1 dL_ranges_50 ?_
  refine j_iload X 5 dL_ranges_51 rfl ?_
  refine j_ishr X dL_ranges_53 ?_
  refine j_if_le (tgt := 61) X dL_ranges_54 (by decide) (fun c => ?_) (fun c => ?_)
  · replace hf := f_t c hf
    refine j_iconst X (v := (nI 0)) (by decide) dL_ranges_61 ?_
    exact t_L_ranges_j62 X Y hq0 hf hk_kc hk_kx110
  replace hf := f_f c hf
  refine j_iconst X (v := (nI 1)) (by decide) dL_ranges_57 ?_
  refine j_goto (tgt := 62) X dL_ranges_58 (by decide) ?_
  exact t_L_ranges_j62 X Y hq0 hf hk_kc hk_kx110
set_option maxRecDepth 100000 in
set_option maxHeartbeats 4000000 in
theorem t_L_ranges_L16 (X : CX p rmL_ranges s m args c cL_ranges 8 RL wsL_ranges D (tC cI cL cS) N ad) (Y : RX meth (some .int)) {q0 : Nat} {x1 : Int32} {x3 : Int32} {w : Wd} {kx110 : Int32 → Option (Int32)} {out : Int32} (hq0 : isI N cell cI q0 32) (hk_kx110 : ∀ (y2 : Int32), kx110 y2 = some out → WJ p l e rmL_ranges s m args below meth c (MQ below (QWi D N ad cell out w) args s 0 0 (AW N ad)) 8 D N ad cell w 110 [(0, .ref (ad q0)), (1, .int x1), (2, .int y2), (3, .int x3)] []) : ∀ (n : Nat) (x2 : Int32) (x4 : Int32) (x5 : Int32), m_L_ranges_L16 q0 x1 x3 w kx110 n x2 x4 x5 = some out → WJ p l e rmL_ranges s m args below meth c (MQ below (QWi D N ad cell out w) args s 0 0 (AW N ad)) 8 D N ad cell w 16 [(0, .ref (ad q0)), (1, .int x1), (2, .int x2), (3, .int x3), (4, .int x4), (5, .int x5)] [] := by
  intro n
  induction n with
  | zero => intro x2 x4 x5 hf; exact f_n hf
  | succ n ih =>
    intro x2 x4 x5 hf
    rw [m_L_ranges_L16] at hf
    refine j_iload X 5 dL_ranges_16 rfl ?_
    refine j_if_le (tgt := 110) X dL_ranges_18 (by decide) (fun c => ?_) (fun c => ?_)
    · replace hf := f_t c hf
      refine j_sub [0, 1, 2, 3] rfl ?_
      exact hk_kx110 _ hf
    replace hf := f_f c hf
    refine j_aload_n X 0 dL_ranges_21 rfl rfl ?_
    refine j_iconst X (v := (nI 4)) (by decide) dL_ranges_22 ?_
    refine j_iload_n X 1 dL_ranges_23 rfl rfl ?_
    refine j_imul X dL_ranges_24 ?_
    refine j_iload_n X 3 dL_ranges_25 rfl rfl ?_
    refine j_iadd X dL_ranges_26 ?_
    obtain ⟨hi1, hf⟩ := f_c hf
    refine j_iald X 0 rfl hq0 hi1 dL_ranges_27 ?_
    refine j_iload X 5 dL_ranges_28 rfl ?_
    refine j_ishr X dL_ranges_30 ?_
    refine j_iconst X (v := (nI 1)) (by decide) dL_ranges_31 ?_
    refine j_iand X dL_ranges_32 ?_
    refine j_iconst X (v := (nI 1)) (by decide) dL_ranges_33 ?_
    refine j_icmp_ne (tgt := 41) X dL_ranges_34 (by decide) (fun c => ?_) (fun c => ?_)
    · replace hf := f_t c hf
      refine j_iconst X (v := (nI 0)) (by decide) dL_ranges_41 ?_
      exact t_L_ranges_j42 X Y hq0 hf ih hk_kx110
    replace hf := f_fn c hf
    refine j_iconst X (v := (nI 1)) (by decide) dL_ranges_37 ?_
    refine j_goto (tgt := 42) X dL_ranges_38 (by decide) ?_
    exact t_L_ranges_j42 X Y hq0 hf ih hk_kx110
set_option maxRecDepth 100000 in
set_option maxHeartbeats 4000000 in
theorem t_L_ranges_L4 (X : CX p rmL_ranges s m args c cL_ranges 8 RL wsL_ranges D (tC cI cL cS) N ad) (Y : RX meth (some .int)) {q0 : Nat} {x1 : Int32} {w : Wd} {out : Int32} (hq0 : isI N cell cI q0 32) : ∀ (n : Nat) (x2 : Int32) (x3 : Int32), m_L_ranges_L4 q0 x1 w n x2 x3 = some out → WJ p l e rmL_ranges s m args below meth c (MQ below (QWi D N ad cell out w) args s 0 0 (AW N ad)) 8 D N ad cell w 4 [(0, .ref (ad q0)), (1, .int x1), (2, .int x2), (3, .int x3)] [] := by
  intro n
  induction n with
  | zero => intro x2 x3 hf; exact f_n hf
  | succ n ih =>
    intro x2 x3 hf
    rw [m_L_ranges_L4] at hf
    refine j_iload_n X 3 dL_ranges_4 rfl rfl ?_
    refine j_iconst X (v := (nI 4)) (by decide) dL_ranges_5 ?_
    refine j_icmp_ge (tgt := 116) X dL_ranges_6 (by decide) (fun c => ?_) (fun c => ?_)
    · replace hf := f_t c hf
      refine j_iload_n X 2 dL_ranges_116 rfl rfl ?_
      exact j_iret X Y (f_s hf) rfl dL_ranges_117
    replace hf := f_f c hf
    refine j_iconst X (v := (nI 0)) (by decide) dL_ranges_9 ?_
    refine j_istore (lv' := [(0, .ref (ad q0)), (1, .int x1), (2, .int x2), (3, .int x3), (4, .int (nI 0))]) X dL_ranges_10 (by decide) rfl ?_
    refine j_bipush X (v := (nI 13)) (by decide) dL_ranges_12 ?_
    refine j_istore (lv' := [(0, .ref (ad q0)), (1, .int x1), (2, .int x2), (3, .int x3), (4, .int (nI 0)), (5, .int (nI 13))]) X dL_ranges_14 (by decide) rfl ?_
    refine t_L_ranges_L16 X Y hq0 ?_ _ _ _ _ hf
    intro x2_1 hf
    refine j_iinc (v := (x3 + (nI 1))) (lv' := [(0, .ref (ad q0)), (1, .int x1), (2, .int x2_1), (3, .int (x3 + (nI 1)))]) X 3 dL_ranges_110 rfl rfl (by decide) rfl ?_
    refine j_goto (tgt := 4) X dL_ranges_113 (by decide) ?_
    exact ih _ _ hf
set_option maxRecDepth 100000 in
set_option maxHeartbeats 4000000 in
theorem c_L_ranges (hI : Inj N ad) {q0 : Nat} {x1 : Int32} {w : Wd} {out : Int32} (hq0 : isI N cell cI q0 32) (hf : m_L_ranges q0 x1 w = some out) : Met l yL_ranges wsL_ranges rmL_ranges (va_Pc [.ref (ad q0), .int x1] (PW D (tC cI cL cS) N ad cell w)) (QWi D N ad cell out w) 0 0 (AW N ad) := by
  refine mk_met (maxL := 8) (ret := (some .int)) RL hI (by decide) rfl rfl (Nat.le_of_ble_eq_true rfl) rfl rfl (fun p e s m args below meth c X Y => ?_)
  unfold m_L_ranges at hf
  refine j_iconst X (v := (nI 0)) (by decide) dL_ranges_0 ?_
  refine j_istore_n (lv' := [(0, .ref (ad q0)), (1, .int x1), (2, .int (nI 0))]) X dL_ranges_1 rfl (by decide) rfl ?_
  refine j_iconst X (v := (nI 0)) (by decide) dL_ranges_2 ?_
  refine j_istore_n (lv' := [(0, .ref (ad q0)), (1, .int x1), (2, .int (nI 0)), (3, .int (nI 0))]) X dL_ranges_3 rfl (by decide) rfl ?_
  refine t_L_ranges_L4 X Y hq0 _ _ _ hf
abbrev rmL_put : Room := { frames := 0, cells := 0, slots := 0, locals := 0 }
set_option maxRecDepth 100000 in
set_option maxHeartbeats 4000000 in
theorem c_L_put (hI : Inj N ad) {q0 : Nat} {q1 : Nat} {x2 : Int32} {x3 : Int32} {w : Wd} {out : Wd} (hq0 : isI N cell cI q0 24) (hq1 : isI N cell cI q1 52) (hf : m_L_put q0 q1 x2 x3 w = some out) : Met l yL_put wsL_put rmL_put (va_Pc [.ref (ad q0), .ref (ad q1), .int x2, .int x3] (PW D (tC cI cL cS) N ad cell w)) (QWv D N ad cell out) 0 0 (AW N ad) := by
  refine mk_met (maxL := 5) (ret := none) RL hI (by decide) rfl rfl (Nat.le_of_ble_eq_true rfl) rfl rfl (fun p e s m args below meth c X Y => ?_)
  unfold m_L_put at hf
  refine j_bipush X (v := (nI 13)) (by decide) dL_put_0 ?_
  refine j_iload_n X 2 dL_put_2 rfl rfl ?_
  refine j_iconst X (v := (nI 1)) (by decide) dL_put_3 ?_
  refine j_isub X dL_put_4 ?_
  refine j_imul X dL_put_5 ?_
  obtain ⟨x4_1, ex4_1, hf⟩ := f_lt hf
  refine j_top ex4_1 ?_
  refine j_istore (lv' := [(0, .ref (ad q0)), (1, .ref (ad q1)), (2, .int x2), (3, .int x3), (4, .int x4_1)]) X dL_put_6 (by decide) rfl ?_
  refine j_aload_n X 1 dL_put_8 rfl rfl ?_
  refine j_iload X 4 dL_put_9 rfl ?_
  obtain ⟨hi2, hf⟩ := f_c hf
  refine j_iald X 0 rfl hq1 hi2 dL_put_11 ?_
  refine j_bipush X (v := (nI 11)) (by decide) dL_put_12 ?_
  refine j_icmp_le (tgt := 25) X dL_put_14 (by decide) (fun c => ?_) (fun c => ?_)
  · replace hf := f_t c hf
    refine j_aload_n X 1 dL_put_25 rfl rfl ?_
    refine j_iload X 4 dL_put_26 rfl ?_
    refine j_dup2 X rfl rfl dL_put_28 ?_
    obtain ⟨hi3, hf⟩ := f_c hf
    refine j_iald X 0 rfl hq1 hi3 dL_put_29 ?_
    refine j_iconst X (v := (nI 1)) (by decide) dL_put_30 ?_
    refine j_iadd X dL_put_31 ?_
    obtain ⟨hi4, hf⟩ := f_c hf
    obtain ⟨w5, ew5, hf⟩ := f_lt hf
    refine j_iast X 0 rfl hq1 hi4 dL_put_32 ew5 ?_
    refine j_aload_n X 1 dL_put_33 rfl rfl ?_
    refine j_iload X 4 dL_put_34 rfl ?_
    refine j_aload_n X 1 dL_put_36 rfl rfl ?_
    refine j_iload X 4 dL_put_37 rfl ?_
    obtain ⟨hi6, hf⟩ := f_c hf
    refine j_iald X 0 rfl hq1 hi6 dL_put_39 ?_
    refine j_iadd X dL_put_40 ?_
    refine j_iload_n X 3 dL_put_41 rfl rfl ?_
    obtain ⟨hi7, hf⟩ := f_c hf
    obtain ⟨w8, ew8, hf⟩ := f_lt hf
    refine j_iast X 0 rfl hq1 hi7 dL_put_42 ew8 ?_
    exact j_vret X Y (f_s hf) dL_put_43
  replace hf := f_f c hf
  refine j_aload_n X 0 dL_put_17 rfl rfl ?_
  refine j_iconst X (v := (nI 4)) (by decide) dL_put_18 ?_
  refine j_dup2 X rfl rfl dL_put_19 ?_
  obtain ⟨hi9, hf⟩ := f_c hf
  refine j_iald X 0 rfl hq0 hi9 dL_put_20 ?_
  refine j_iconst X (v := (nI 1)) (by decide) dL_put_21 ?_
  refine j_iadd X dL_put_22 ?_
  obtain ⟨hi10, hf⟩ := f_c hf
  obtain ⟨w11, ew11, hf⟩ := f_lt hf
  refine j_iast X 0 rfl hq0 hi10 dL_put_23 ew11 ?_
  exact j_vret X Y (f_s hf) dL_put_24
abbrev rmL_take : Room := { frames := 0, cells := 0, slots := 0, locals := 0 }
set_option maxRecDepth 100000 in
set_option maxHeartbeats 4000000 in
theorem t_L_take_L16 (X : CX p rmL_take s m args c cL_take 5 RL wsL_take D (tC cI cL cS) N ad) (Y : RX meth (some .int)) {q0 : Nat} {x2 : Int32} {x3 : Int32} {kx44 : Wd → Option (Int32 × Wd)} {out : Int32 × Wd} (hq0 : isI N cell cI q0 52) (hk_kx44 : ∀  (v : Wd), kx44 v = some out → WJ p l e rmL_take s m args below meth c (MQ below (QWi D N ad cell out.1 out.2) args s 0 0 (AW N ad)) 5 D N ad cell v 44 [(0, .ref (ad q0)), (2, .int x2), (3, .int x3)] []) : ∀ (n : Nat) (x4 : Int32) (w : Wd), m_L_take_L16 q0 x2 x3 kx44 n x4 w = some out → WJ p l e rmL_take s m args below meth c (MQ below (QWi D N ad cell out.1 out.2) args s 0 0 (AW N ad)) 5 D N ad cell w 16 [(0, .ref (ad q0)), (2, .int x2), (3, .int x3), (4, .int x4)] [] := by
  intro n
  induction n with
  | zero => intro x4 w hf; exact f_n hf
  | succ n ih =>
    intro x4 w hf
    rw [m_L_take_L16] at hf
    refine j_iload X 3 dL_take_16 rfl ?_
    refine j_aload_n X 0 dL_take_18 rfl rfl ?_
    refine j_iload_n X 1 dL_take_19 rfl rfl ?_
    obtain ⟨hi1, hf⟩ := f_c hf
    refine j_iald X 0 rfl hq0 hi1 dL_take_20 ?_
    refine j_icmp_ge (tgt := 44) X dL_take_21 (by decide) (fun c => ?_) (fun c => ?_)
    · replace hf := f_t c hf
      refine j_sub [0, 1, 2] rfl ?_
      exact hk_kx44 _ hf
    replace hf := f_f c hf
    refine j_aload_n X 0 dL_take_24 rfl rfl ?_
    refine j_iload_n X 1 dL_take_25 rfl rfl ?_
    refine j_iload X 3 dL_take_26 rfl ?_
    refine j_iadd X dL_take_28 ?_
    refine j_aload_n X 0 dL_take_29 rfl rfl ?_
    refine j_iload_n X 1 dL_take_30 rfl rfl ?_
    refine j_iload X 3 dL_take_31 rfl ?_
    refine j_iadd X dL_take_33 ?_
    refine j_iconst X (v := (nI 1)) (by decide) dL_take_34 ?_
    refine j_iadd X dL_take_35 ?_
    obtain ⟨hi2, hf⟩ := f_c hf
    refine j_iald X 0 rfl hq0 hi2 dL_take_36 ?_
    obtain ⟨hi3, hf⟩ := f_c hf
    obtain ⟨w4, ew4, hf⟩ := f_lt hf
    refine j_iast X 0 rfl hq0 hi3 dL_take_37 ew4 ?_
    refine j_iinc (v := (x4 + (nI 1))) (lv' := [(0, .ref (ad q0)), (2, .int x2), (3, .int x3), (4, .int (x4 + (nI 1)))]) X 3 dL_take_38 rfl rfl (by decide) rfl ?_
    refine j_goto (tgt := 16) X dL_take_41 (by decide) ?_
    exact ih _ _ hf
set_option maxRecDepth 100000 in
set_option maxHeartbeats 4000000 in
theorem c_L_take (hI : Inj N ad) {q0 : Nat} {x1 : Int32} {w : Wd} {out : Int32 × Wd} (hq0 : isI N cell cI q0 52) (hf : m_L_take q0 x1 w = some out) : Met l yL_take wsL_take rmL_take (va_Pc [.ref (ad q0), .int x1] (PW D (tC cI cL cS) N ad cell w)) (QWi D N ad cell out.1 out.2) 0 0 (AW N ad) := by
  refine mk_met (maxL := 5) (ret := (some .int)) RL hI (by decide) rfl rfl (Nat.le_of_ble_eq_true rfl) rfl rfl (fun p e s m args below meth c X Y => ?_)
  unfold m_L_take at hf
  refine j_bipush X (v := (nI 13)) (by decide) dL_take_0 ?_
  refine j_iload_n X 1 dL_take_2 rfl rfl ?_
  refine j_iconst X (v := (nI 1)) (by decide) dL_take_3 ?_
  refine j_isub X dL_take_4 ?_
  refine j_imul X dL_take_5 ?_
  obtain ⟨x2_1, ex2_1, hf⟩ := f_lt hf
  refine j_top ex2_1 ?_
  refine j_istore_n (lv' := [(0, .ref (ad q0)), (1, .int x1), (2, .int x2_1)]) X dL_take_6 rfl (by decide) rfl ?_
  refine j_aload_n X 0 dL_take_7 rfl rfl ?_
  refine j_iload_n X 2 dL_take_8 rfl rfl ?_
  refine j_iconst X (v := (nI 1)) (by decide) dL_take_9 ?_
  refine j_iadd X dL_take_10 ?_
  obtain ⟨hi2, hf⟩ := f_c hf
  refine j_iald X 0 rfl hq0 hi2 dL_take_11 ?_
  obtain ⟨x3_3, ex3_3, hf⟩ := f_lt hf
  refine j_top ex3_3 ?_
  refine j_istore_n (lv' := [(0, .ref (ad q0)), (1, .int x1), (2, .int x2_1), (3, .int x3_3)]) X dL_take_12 rfl (by decide) rfl ?_
  refine j_iconst X (v := (nI 1)) (by decide) dL_take_13 ?_
  refine j_istore (lv' := [(0, .ref (ad q0)), (1, .int x1), (2, .int x2_1), (3, .int x3_3), (4, .int (nI 1))]) X dL_take_14 (by decide) rfl ?_
  refine j_sub [0, 2, 3, 4] rfl ?_
  refine t_L_take_L16 X Y hq0 ?_ _ _ _ hf
  intro w4 hf
  refine j_aload_n X 0 dL_take_44 rfl rfl ?_
  refine j_iload_n X 1 dL_take_45 rfl rfl ?_
  refine j_dup2 X rfl rfl dL_take_46 ?_
  obtain ⟨hi5, hf⟩ := f_c hf
  refine j_iald X 0 rfl hq0 hi5 dL_take_47 ?_
  refine j_iconst X (v := (nI 1)) (by decide) dL_take_48 ?_
  refine j_isub X dL_take_49 ?_
  obtain ⟨hi6, hf⟩ := f_c hf
  obtain ⟨w7, ew7, hf⟩ := f_lt hf
  refine j_iast X 0 rfl hq0 hi6 dL_take_50 ew7 ?_
  refine j_iload_n X 2 dL_take_51 rfl rfl ?_
  exact j_iret X Y (f_p1 hf) (f_p2 hf) dL_take_52
abbrev rmL_shown : Room := { frames := 0, cells := 0, slots := 0, locals := 0 }
set_option maxRecDepth 100000 in
set_option maxHeartbeats 4000000 in
theorem c_L_shown (hI : Inj N ad) {x0 : Int32} {w : Wd} {out : Int32} (hf : m_L_shown x0 = some out) : Met l yL_shown wsL_shown rmL_shown (va_Pc [.int x0] (PW D (tC cI cL cS) N ad cell w)) (QWi D N ad cell out w) 0 0 (AW N ad) := by
  refine mk_met (maxL := 1) (ret := (some .int)) RL hI (by decide) rfl rfl (Nat.le_of_ble_eq_true rfl) rfl rfl (fun p e s m args below meth c X Y => ?_)
  unfold m_L_shown at hf
  refine j_bipush X (v := (nI 100)) (by decide) dL_shown_0 ?_
  refine j_iload_n X 0 dL_shown_2 rfl rfl ?_
  refine j_bipush X (v := (nI 16)) (by decide) dL_shown_3 ?_
  refine j_idiv X (by decide) dL_shown_5 ?_
  refine j_imul X dL_shown_6 ?_
  refine j_iload_n X 0 dL_shown_7 rfl rfl ?_
  refine j_bipush X (v := (nI 16)) (by decide) dL_shown_8 ?_
  refine j_irem X (by decide) dL_shown_10 ?_
  refine j_iadd X dL_shown_11 ?_
  exact j_iret X Y (f_s hf) rfl dL_shown_12
abbrev rmL_has : Room := { frames := 0, cells := 0, slots := 0, locals := 0 }
set_option maxRecDepth 100000 in
set_option maxHeartbeats 4000000 in
theorem t_L_has_j69 (X : CX p rmL_has s m args c cL_has 7 RL wsL_has D (tC cI cL cS) N ad) (Y : RX meth (some .boolean)) {q0 : Nat} {q1 : Nat} {x2 : Int32} {x3 : Int32} {x5 : Int32} {x6 : Int32} {s0 : Int32} {w : Wd} {kc : Int32 → Int32 → Option (Int32)} {out : Int32} (hq0 : isI N cell cI q0 52) (hq1 : isI N cell cI q1 50) (hf : m_L_has_j69 q0 q1 x2 x3 x5 x6 s0 w kc = some out) (hk_kc : ∀ (y4 : Int32) (y6 : Int32), kc y4 y6 = some out → WJ p l e rmL_has s m args below meth c (MQ below (QWi D N ad cell out w) args s 0 0 (AW N ad)) 7 D N ad cell w 26 [(0, .ref (ad q0)), (1, .ref (ad q1)), (2, .int x2), (3, .int x3), (4, .int y4), (5, .int x5), (6, .int y6)] []) : WJ p l e rmL_has s m args below meth c (MQ below (QWi D N ad cell out w) args s 0 0 (AW N ad)) 7 D N ad cell w 69 [(0, .ref (ad q0)), (1, .ref (ad q1)), (2, .int x2), (3, .int x3), (5, .int x5), (6, .int x6)] [.int s0] := by
  unfold m_L_has_j69 at hf
  refine j_istore (lv' := [(0, .ref (ad q0)), (1, .ref (ad q1)), (2, .int x2), (3, .int x3), (4, .int s0), (5, .int x5), (6, .int x6)]) X dL_has_69 (by decide) rfl ?_
  refine j_iinc (v := (x6 + (nI 1))) (lv' := [(0, .ref (ad q0)), (1, .ref (ad q1)), (2, .int x2), (3, .int x3), (4, .int s0), (5, .int x5), (6, .int (x6 + (nI 1)))]) X 6 dL_has_71 rfl rfl (by decide) rfl ?_
  refine j_goto (tgt := 26) X dL_has_74 (by decide) ?_
  exact hk_kc _ _ hf
set_option maxRecDepth 100000 in
set_option maxHeartbeats 4000000 in
theorem t_L_has_j64 (X : CX p rmL_has s m args c cL_has 7 RL wsL_has D (tC cI cL cS) N ad) (Y : RX meth (some .boolean)) {q0 : Nat} {q1 : Nat} {x2 : Int32} {x3 : Int32} {x5 : Int32} {x6 : Int32} {w : Wd} {kc : Int32 → Int32 → Option (Int32)} {out : Int32} (hq0 : isI N cell cI q0 52) (hq1 : isI N cell cI q1 50) (hf : m_L_has_j64 q0 q1 x2 x3 x5 x6 w kc = some out) (hk_kc : ∀ (y4 : Int32) (y6 : Int32), kc y4 y6 = some out → WJ p l e rmL_has s m args below meth c (MQ below (QWi D N ad cell out w) args s 0 0 (AW N ad)) 7 D N ad cell w 26 [(0, .ref (ad q0)), (1, .ref (ad q1)), (2, .int x2), (3, .int x3), (4, .int y4), (5, .int x5), (6, .int y6)] []) : WJ p l e rmL_has s m args below meth c (MQ below (QWi D N ad cell out w) args s 0 0 (AW N ad)) 7 D N ad cell w 64 [(0, .ref (ad q0)), (1, .ref (ad q1)), (2, .int x2), (3, .int x3), (5, .int x5), (6, .int x6)] [] := by
  unfold m_L_has_j64 at hf
  refine j_iconst X (v := (nI 1)) (by decide) dL_has_64 ?_
  refine j_goto (tgt := 69) X dL_has_65 (by decide) ?_
  exact t_L_has_j69 X Y hq0 hq1 hf hk_kc
set_option maxRecDepth 100000 in
set_option maxHeartbeats 4000000 in
theorem t_L_has_j60 (X : CX p rmL_has s m args c cL_has 7 RL wsL_has D (tC cI cL cS) N ad) (Y : RX meth (some .boolean)) {q0 : Nat} {q1 : Nat} {x2 : Int32} {x3 : Int32} {x5 : Int32} {x6 : Int32} {s0 : Int32} {w : Wd} {kc : Int32 → Int32 → Option (Int32)} {out : Int32} (hq0 : isI N cell cI q0 52) (hq1 : isI N cell cI q1 50) (hf : m_L_has_j60 q0 q1 x2 x3 x5 x6 s0 w kc = some out) (hk_kc : ∀ (y4 : Int32) (y6 : Int32), kc y4 y6 = some out → WJ p l e rmL_has s m args below meth c (MQ below (QWi D N ad cell out w) args s 0 0 (AW N ad)) 7 D N ad cell w 26 [(0, .ref (ad q0)), (1, .ref (ad q1)), (2, .int x2), (3, .int x3), (4, .int y4), (5, .int x5), (6, .int y6)] []) : WJ p l e rmL_has s m args below meth c (MQ below (QWi D N ad cell out w) args s 0 0 (AW N ad)) 7 D N ad cell w 60 [(0, .ref (ad q0)), (1, .ref (ad q1)), (2, .int x2), (3, .int x3), (5, .int x5), (6, .int x6)] [.int s0] := by
  unfold m_L_has_j60 at hf
  refine j_iload_n X 3 dL_has_60 rfl rfl ?_
  refine j_icmp_ne (tgt := 68) X dL_has_61 (by decide) (fun c => ?_) (fun c => ?_)
  · replace hf := f_t c hf
    refine j_iconst X (v := (nI 0)) (by decide) dL_has_68 ?_
    exact t_L_has_j69 X Y hq0 hq1 hf hk_kc
  replace hf := f_fn c hf
  exact t_L_has_j64 X Y hq0 hq1 hf hk_kc
set_option maxRecDepth 100000 in
set_option maxHeartbeats 4000000 in
theorem t_L_has_L26 (X : CX p rmL_has s m args c cL_has 7 RL wsL_has D (tC cI cL cS) N ad) (Y : RX meth (some .boolean)) {q0 : Nat} {q1 : Nat} {x2 : Int32} {x3 : Int32} {x5 : Int32} {w : Wd} {out : Int32} (hq0 : isI N cell cI q0 52) (hq1 : isI N cell cI q1 50) : ∀ (n : Nat) (x4 : Int32) (x6 : Int32), m_L_has_L26 q0 q1 x2 x3 x5 w n x4 x6 = some out → WJ p l e rmL_has s m args below meth c (MQ below (QWi D N ad cell out w) args s 0 0 (AW N ad)) 7 D N ad cell w 26 [(0, .ref (ad q0)), (1, .ref (ad q1)), (2, .int x2), (3, .int x3), (4, .int x4), (5, .int x5), (6, .int x6)] [] := by
  intro n
  induction n with
  | zero => intro x4 x6 hf; exact f_n hf
  | succ n ih =>
    intro x4 x6 hf
    rw [m_L_has_L26] at hf
    refine j_iload X 6 dL_has_26 rfl ?_
    refine j_iload X 5 dL_has_28 rfl ?_
    refine j_icmp_gt (tgt := 77) X dL_has_30 (by decide) (fun c => ?_) (fun c => ?_)
    · replace hf := f_t c hf
      refine j_iload X 4 dL_has_77 rfl ?_
      exact j_bret X Y (f_s hf) rfl dL_has_79
    replace hf := f_f c hf
    refine j_iload X 4 dL_has_33 rfl ?_
    refine j_if_ne (tgt := 64) X dL_has_35 (by decide) (fun c => ?_) (fun c => ?_)
    · replace hf := f_t c hf
      refine j_sub [0, 1, 2, 3, 5, 6] rfl ?_
      exact t_L_has_j64 X Y hq0 hq1 hf ih
    replace hf := f_fn c hf
    refine j_iload_n X 2 dL_has_38 rfl rfl ?_
    refine j_if_ne (tgt := 49) X dL_has_39 (by decide) (fun c => ?_) (fun c => ?_)
    · replace hf := f_t c hf
      refine j_aload_n X 0 dL_has_49 rfl rfl ?_
      refine j_bipush X (v := (nI 13)) (by decide) dL_has_50 ?_
      refine j_iload_n X 2 dL_has_52 rfl rfl ?_
      refine j_iconst X (v := (nI 1)) (by decide) dL_has_53 ?_
      refine j_isub X dL_has_54 ?_
      refine j_imul X dL_has_55 ?_
      refine j_iload X 6 dL_has_56 rfl ?_
      refine j_iadd X dL_has_58 ?_
      obtain ⟨hi1, hf⟩ := f_c hf
      refine j_iald X 0 rfl hq0 hi1 dL_has_59 ?_
      refine j_sub [0, 1, 2, 3, 5, 6] rfl ?_
      exact t_L_has_j60 X Y hq0 hq1 hf ih
    replace hf := f_fn c hf
    refine j_aload_n X 1 dL_has_42 rfl rfl ?_
    refine j_iload X 6 dL_has_43 rfl ?_
    obtain ⟨hi2, hf⟩ := f_c hf
    refine j_iald X 0 rfl hq1 hi2 dL_has_45 ?_
    refine j_goto (tgt := 60) X dL_has_46 (by decide) ?_
    refine j_sub [0, 1, 2, 3, 5, 6] rfl ?_
    exact t_L_has_j60 X Y hq0 hq1 hf ih
set_option maxRecDepth 100000 in
set_option maxHeartbeats 4000000 in
theorem t_L_has_j21 (X : CX p rmL_has s m args c cL_has 7 RL wsL_has D (tC cI cL cS) N ad) (Y : RX meth (some .boolean)) {q0 : Nat} {q1 : Nat} {x2 : Int32} {x3 : Int32} {x4 : Int32} {s0 : Int32} {w : Wd} {out : Int32} (hq0 : isI N cell cI q0 52) (hq1 : isI N cell cI q1 50) (hf : m_L_has_j21 q0 q1 x2 x3 x4 s0 w = some out) : WJ p l e rmL_has s m args below meth c (MQ below (QWi D N ad cell out w) args s 0 0 (AW N ad)) 7 D N ad cell w 21 [(0, .ref (ad q0)), (1, .ref (ad q1)), (2, .int x2), (3, .int x3), (4, .int x4)] [.int s0] := by
  unfold m_L_has_j21 at hf
  refine j_istore (lv' := [(0, .ref (ad q0)), (1, .ref (ad q1)), (2, .int x2), (3, .int x3), (4, .int x4), (5, .int s0)]) X dL_has_21 (by decide) rfl ?_
  refine j_iconst X (v := (nI 1)) (by decide) dL_has_23 ?_
  refine j_istore (lv' := [(0, .ref (ad q0)), (1, .ref (ad q1)), (2, .int x2), (3, .int x3), (4, .int x4), (5, .int s0), (6, .int (nI 1))]) X dL_has_24 (by decide) rfl ?_
  refine t_L_has_L26 X Y hq0 hq1 _ _ _ hf
set_option maxRecDepth 100000 in
set_option maxHeartbeats 4000000 in
theorem c_L_has (hI : Inj N ad) {q0 : Nat} {q1 : Nat} {x2 : Int32} {x3 : Int32} {w : Wd} {out : Int32} (hq0 : isI N cell cI q0 52) (hq1 : isI N cell cI q1 50) (hf : m_L_has q0 q1 x2 x3 w = some out) : Met l yL_has wsL_has rmL_has (va_Pc [.ref (ad q0), .ref (ad q1), .int x2, .int x3] (PW D (tC cI cL cS) N ad cell w)) (QWi D N ad cell out w) 0 0 (AW N ad) := by
  refine mk_met (maxL := 7) (ret := (some .boolean)) RL hI (by decide) rfl rfl (Nat.le_of_ble_eq_true rfl) rfl rfl (fun p e s m args below meth c X Y => ?_)
  unfold m_L_has at hf
  refine j_iconst X (v := (nI 0)) (by decide) dL_has_0 ?_
  refine j_istore (lv' := [(0, .ref (ad q0)), (1, .ref (ad q1)), (2, .int x2), (3, .int x3), (4, .int (nI 0))]) X dL_has_1 (by decide) rfl ?_
  refine j_iload_n X 2 dL_has_3 rfl rfl ?_
  refine j_if_ne (tgt := 13) X dL_has_4 (by decide) (fun c => ?_) (fun c => ?_)
  · replace hf := f_t c hf
    refine j_aload_n X 0 dL_has_13 rfl rfl ?_
    refine j_bipush X (v := (nI 13)) (by decide) dL_has_14 ?_
    refine j_iload_n X 2 dL_has_16 rfl rfl ?_
    refine j_iconst X (v := (nI 1)) (by decide) dL_has_17 ?_
    refine j_isub X dL_has_18 ?_
    refine j_imul X dL_has_19 ?_
    obtain ⟨hi1, hf⟩ := f_c hf
    refine j_iald X 0 rfl hq0 hi1 dL_has_20 ?_
    exact t_L_has_j21 X Y hq0 hq1 hf
  replace hf := f_fn c hf
  refine j_aload_n X 1 dL_has_7 rfl rfl ?_
  refine j_iconst X (v := (nI 0)) (by decide) dL_has_8 ?_
  obtain ⟨hi2, hf⟩ := f_c hf
  refine j_iald X 0 rfl hq1 hi2 dL_has_9 ?_
  refine j_goto (tgt := 21) X dL_has_10 (by decide) ?_
  exact t_L_has_j21 X Y hq0 hq1 hf
end WALK19
