/-! ===== the law: two worlds side by side (written by wip/whole/tools/gen_law.py) ===== -/
def LX (p : Program) (s : State) (m : MethodId) (args : Array Value) (c : Code) (D : va_G) (cI cL cS : ClassId) (aC aR : Nat → Nat) (b L : Nat) (xs : Nat → Int32) : Prop :=
  p.tables.exec = Jvm.exec ∧ c.code = cL_law ∧ c.maxLocals = 4 ∧ s.vm.findClass RL = some m.cls ∧ (∀ w ∈ wsL_law, w.before args s = true) ∧ va_K D vwCl (tC cI cL cS) s ∧ NW s ∧ (Inj 490 aC ∧ Inj 8 aR ∧ (∀ i j, i < 490 → j < 8 → aC i ≠ aR j) ∧ (∀ i, i < 490 → s.heap.size ≤ aC i) ∧ ∀ j, j < 8 → s.heap.size ≤ aR j) ∧ va_X b L xs s s.heap ∧ b < s.heap.size ∧ L ≤ 2048
/-- the machine, the class's world being w, the reference's v, comes to Q -/
def LJ (p : Program) (l : Launch) (e : Env) (s : State) (m : MethodId) (args : Array Value) (below : List Frame) (meth : Method) (c : Code) (Q : State → Prop) (D : va_G) (cI cL cS : ClassId) (aC aR : Nat → Nat) (w v : Wd) (pc : Nat) (lv : List (Nat × Value)) (st : List Value) : Prop :=
  ∀ (H : Heap) (locs : List Loc) (ls : Array Slot), va_P D vwCl (WW 490 aC (cellC cI cL cS aC) w) H → va_P D vwCl (WW 8 aR (cellR cI aR) v) H → va_S (fun q : Nat => s.heap.size ≤ q) s.heap H locs → lh ls 4 lv → W p l e room_1 s m args below meth c H locs room_1.cells room_1.slots Q (F0 m pc ls st)
section LJR
variable {p : Program} {l : Launch} {e : Env} {s : State} {m : MethodId} {args : Array Value} {below : List Frame} {meth : Method} {c : Code} {Q : State → Prop} {D : va_G} {cI cL cS : ClassId} {aC aR : Nat → Nat} {w v : Wd} {pc : Nat} {lv : List (Nat × Value)} {st : List Value} {b L : Nat} {xs : Nat → Int32}
theorem l_b (X : LX p s m args c D cI cL cS aC aR b L xs) : ¬ (fun q : Nat => s.heap.size ≤ q) b := Nat.not_le.mpr X.2.2.2.2.2.2.2.2.2.1
theorem l_arg (X : LX p s m args c D cI cL cS aC aR b L xs) {i j : Nat} {z : Int} {r1 r2 : Nat} (hz : Int32.ofInt z = nI j) (hj : i + j < L) (d0 : decode cL_law pc = .ok (.aload_n 0, 1)) (d1 : decode cL_law (pc + 1) = .ok (.iload_n 3, 1)) (d2 : decode cL_law (pc + 1 + 1) = .ok (.iconst z, 1)) (d3 : decode cL_law (pc + 1 + 1 + 1) = .ok (.iadd, 1)) (d4 : decode cL_law (pc + 1 + 1 + 1 + 1) = .ok (.iaload, 1)) (kk : LJ p l e s m args below meth c Q D cI cL cS aC aR w v (pc + 1 + 1 + 1 + 1 + 1) [(0, .ref b), (1, .ref r1), (2, .ref r2), (3, .int (nI i))] (.int (xs (i + j)) :: st)) : LJ p l e s m args below meth c Q D cI cL cS aC aR w v pc [(0, .ref b), (1, .ref r1), (2, .ref r2), (3, .int (nI i))] st := by
  intro H locs ls hP hR hS hl
  have hL : L ≤ 2048 := X.2.2.2.2.2.2.2.2.2.2
  refine lv_aload_n X.1 X.2.1 d0 rfl (lv_at hl.1 0 rfl) ?_
  refine lv_iload_n X.1 X.2.1 d1 rfl (lv_at hl.1 3 rfl) ?_
  refine lv_iconst X.1 X.2.1 d2 hz ?_
  refine lv_iadd X.1 X.2.1 d3 ?_
  rw [nI_add]
  refine va_sld X.1 X.2.1 X.2.2.2.2.2.2.2.2.1 X.2.2.2.2.2.2.2.2.2.1 (l_b X) hS (vp_in_nI hj (by omega)) d4 ?_
  rw [nI_clamp (by omega)]
  exact kk H locs ls hP hR hS hl
theorem l_at0 (X : LX p s m args c D cI cL cS aC aR b L xs) {i : Nat} {r1 r2 : Nat} (hj : i < L) (d0 : decode cL_law pc = .ok (.aload_n 0, 1)) (d1 : decode cL_law (pc + 1) = .ok (.iload_n 3, 1)) (d4 : decode cL_law (pc + 1 + 1) = .ok (.iaload, 1)) (kk : LJ p l e s m args below meth c Q D cI cL cS aC aR w v (pc + 1 + 1 + 1) [(0, .ref b), (1, .ref r1), (2, .ref r2), (3, .int (nI i))] (.int (xs i) :: st)) : LJ p l e s m args below meth c Q D cI cL cS aC aR w v pc [(0, .ref b), (1, .ref r1), (2, .ref r2), (3, .int (nI i))] st := by
  intro H locs ls hP hR hS hl
  have hL : L ≤ 2048 := X.2.2.2.2.2.2.2.2.2.2
  refine lv_aload_n X.1 X.2.1 d0 rfl (lv_at hl.1 0 rfl) ?_
  refine lv_iload_n X.1 X.2.1 d1 rfl (lv_at hl.1 3 rfl) ?_
  refine va_sld X.1 X.2.1 X.2.2.2.2.2.2.2.2.1 X.2.2.2.2.2.2.2.2.2.1 (l_b X) hS (vp_in_nI hj (by omega)) d4 ?_
  rw [nI_clamp (by omega)]
  exact kk H locs ls hP hR hS hl
theorem l_aload_n (X : LX p s m args c D cI cL cS aC aR b L xs) {k : Fin 4} {i : Nat} {x : Nat} (j : Nat) (d : decode cL_law pc = .ok (.aload_n k, 1)) (hi : (k : Nat) = i) (hj : lv[j]? = some (i, .ref x)) (kk : LJ p l e s m args below meth c Q D cI cL cS aC aR w v (pc + 1) lv (.ref x :: st)) : LJ p l e s m args below meth c Q D cI cL cS aC aR w v pc lv st := fun H locs ls hP hR hS hl => lv_aload_n X.1 X.2.1 d hi (lv_at hl.1 j hj) (kk H locs ls hP hR hS hl)
theorem l_iload_n (X : LX p s m args c D cI cL cS aC aR b L xs) {k : Fin 4} {i : Nat} {x : Int32} (j : Nat) (d : decode cL_law pc = .ok (.iload_n k, 1)) (hi : (k : Nat) = i) (hj : lv[j]? = some (i, .int x)) (kk : LJ p l e s m args below meth c Q D cI cL cS aC aR w v (pc + 1) lv (.int x :: st)) : LJ p l e s m args below meth c Q D cI cL cS aC aR w v pc lv st := fun H locs ls hP hR hS hl => lv_iload_n X.1 X.2.1 d hi (lv_at hl.1 j hj) (kk H locs ls hP hR hS hl)
theorem l_iconst (X : LX p s m args c D cI cL cS aC aR b L xs) {n : Int} {x : Int32} (hv : Int32.ofInt n = x) (d : decode cL_law pc = .ok (.iconst n, 1)) (kk : LJ p l e s m args below meth c Q D cI cL cS aC aR w v (pc + 1) lv (.int x :: st)) : LJ p l e s m args below meth c Q D cI cL cS aC aR w v pc lv st := fun H locs ls hP hR hS hl => lv_iconst X.1 X.2.1 d hv (kk H locs ls hP hR hS hl)
theorem l_bipush (X : LX p s m args c D cI cL cS aC aR b L xs) {n : Int} {x : Int32} (hv : (Int8.ofInt n).toInt32 = x) (d : decode cL_law pc = .ok (.bipush n, 2)) (kk : LJ p l e s m args below meth c Q D cI cL cS aC aR w v (pc + 2) lv (.int x :: st)) : LJ p l e s m args below meth c Q D cI cL cS aC aR w v pc lv st := fun H locs ls hP hR hS hl => lv_bipush X.1 X.2.1 d hv (kk H locs ls hP hR hS hl)
theorem l_isub (X : LX p s m args c D cI cL cS aC aR b L xs) {x y : Int32} (d : decode cL_law pc = .ok (.isub, 1)) (kk : LJ p l e s m args below meth c Q D cI cL cS aC aR w v (pc + 1) lv (.int (x - y) :: st)) : LJ p l e s m args below meth c Q D cI cL cS aC aR w v pc lv (.int y :: .int x :: st) := fun H locs ls hP hR hS hl => lv_isub X.1 X.2.1 d (kk H locs ls hP hR hS hl)
theorem l_iand (X : LX p s m args c D cI cL cS aC aR b L xs) {x y : Int32} (d : decode cL_law pc = .ok (.iand, 1)) (kk : LJ p l e s m args below meth c Q D cI cL cS aC aR w v (pc + 1) lv (.int (x &&& y) :: st)) : LJ p l e s m args below meth c Q D cI cL cS aC aR w v pc lv (.int y :: .int x :: st) := fun H locs ls hP hR hS hl => lv_iand X.1 X.2.1 d (kk H locs ls hP hR hS hl)
theorem l_slen (X : LX p s m args c D cI cL cS aC aR b L xs) (d : decode cL_law pc = .ok (.arraylength, 1)) (kk : LJ p l e s m args below meth c Q D cI cL cS aC aR w v (pc + 1) lv (.int (nI L) :: st)) : LJ p l e s m args below meth c Q D cI cL cS aC aR w v pc lv (.ref b :: st) := fun H locs ls hP hR hS hl => va_slen X.1 X.2.1 X.2.2.2.2.2.2.2.2.1 X.2.2.2.2.2.2.2.2.2.1 (l_b X) hS d (kk H locs ls hP hR hS hl)
theorem l_goto (X : LX p s m args c D cI cL cS aC aR b L xs) {off : Int} {tgt : Nat} (d : decode cL_law pc = .ok (.goto off, 3)) (ht : (pc : Int) + off = (tgt : Int)) (kk : LJ p l e s m args below meth c Q D cI cL cS aC aR w v tgt lv st) : LJ p l e s m args below meth c Q D cI cL cS aC aR w v pc lv st := fun H locs ls hP hR hS hl => lv_goto X.1 X.2.1 d ht (kk H locs ls hP hR hS hl)
theorem l_icmp_gt (X : LX p s m args c D cI cL cS aC aR b L xs) {x y : Int32} {off : Int} {tgt : Nat} (d : decode cL_law pc = .ok (.if_icmp .gt off, 3)) (ht : (pc : Int) + off = (tgt : Int)) (kt : y < x → LJ p l e s m args below meth c Q D cI cL cS aC aR w v tgt lv st) (kf : ¬ y < x → LJ p l e s m args below meth c Q D cI cL cS aC aR w v (pc + 3) lv st) : LJ p l e s m args below meth c Q D cI cL cS aC aR w v pc lv (.int y :: .int x :: st) := fun H locs ls hP hR hS hl => lv_icmp_gt X.1 X.2.1 d ht (fun q => kt q H locs ls hP hR hS hl) (fun q => kf q H locs ls hP hR hS hl)
theorem l_icmp_eq (X : LX p s m args c D cI cL cS aC aR b L xs) {x : Int32} {off : Int} {tgt : Nat} (d : decode cL_law pc = .ok (.if_icmp .eq off, 3)) (ht : (pc : Int) + off = (tgt : Int)) (kt : LJ p l e s m args below meth c Q D cI cL cS aC aR w v tgt lv st) : LJ p l e s m args below meth c Q D cI cL cS aC aR w v pc lv (.int x :: .int x :: st) := fun H locs ls hP hR hS hl => lv_icmp_eq X.1 X.2.1 d ht (fun _ => kt H locs ls hP hR hS hl) (fun q => absurd rfl q)
theorem l_tin (X : LX p s m args c D cI cL cS aC aR b L xs) {dflt lo hi : Int} {offs : Array Int} {len : Nat} {x : Int32} {off : Int} {tgt : Nat} (d : decode cL_law pc = .ok (.tableswitch dflt lo hi offs, len)) (h1 : ¬ x.toInt < lo) (h2 : ¬ hi < x.toInt) (ho : offs[(x.toInt - lo).toNat]? = some off) (ht : (pc : Int) + off = (tgt : Int)) (kk : LJ p l e s m args below meth c Q D cI cL cS aC aR w v tgt lv st) : LJ p l e s m args below meth c Q D cI cL cS aC aR w v pc lv (.int x :: st) := fun H locs ls hP hR hS hl => lv_tableIn X.1 X.2.1 d h1 h2 ho ht (kk H locs ls hP hR hS hl)
theorem l_tout (X : LX p s m args c D cI cL cS aC aR b L xs) {dflt lo hi : Int} {offs : Array Int} {len : Nat} {x : Int32} {tgt : Nat} (d : decode cL_law pc = .ok (.tableswitch dflt lo hi offs, len)) (h : x.toInt < lo ∨ hi < x.toInt) (ht : (pc : Int) + dflt = (tgt : Int)) (kk : LJ p l e s m args below meth c Q D cI cL cS aC aR w v tgt lv st) : LJ p l e s m args below meth c Q D cI cL cS aC aR w v pc lv (.int x :: st) := fun H locs ls hP hR hS hl => lv_tableOut X.1 X.2.1 d h ht (kk H locs ls hP hR hS hl)
theorem l_inc (X : LX p s m args c D cI cL cS aC aR b L xs) {i : Nat} {r1 r2 : Nat} (d : decode cL_law pc = .ok (.iinc 3 4, 3)) (kk : LJ p l e s m args below meth c Q D cI cL cS aC aR w v (pc + 3) [(0, .ref b), (1, .ref r1), (2, .ref r2), (3, .int (nI (i + 4)))] st) : LJ p l e s m args below meth c Q D cI cL cS aC aR w v pc [(0, .ref b), (1, .ref r1), (2, .ref r2), (3, .int (nI i))] st := fun H locs ls hP hR hS hl => lv_iinc (k := 3) (v := nI (i + 4)) X.1 X.2.1 d hl.1 rfl (nI_add i 4) (by decide) rfl (fun _ h9 => kk H locs _ hP hR hS (lh_set hl rfl h9 rfl))
theorem l_callC (X : LX p s m args c D cI cL cS aC aR b L xs) {y : MethodName} {bytes : ByteArray} {maxL n index : Nat} {ret : Option FieldType} {ws : List Cond} {rm : Room} {w1 : Wd} {st0 : List Value} {r : Int32} (As : List Value) (hM : Met l y ws rm (va_Pc (.ref (aC 472) :: As) (PW D (tC cI cL cS) 490 aC (cellC cI cL cS aC) w)) (QWi D 490 aC (cellC cI cL cS aC) r w1) 0 0 (AW 490 aC)) (cw : CallW room_1 s args RL RX7 index y bytes maxL ret ws rm 0 0 n) (hst : st0 = As.reverse ++ .ref (aC 472) :: st) (hn : As.length = n) (hst8 : (st.map fun v => v.category).sum ≤ 8) (d : decode cL_law pc = .ok (.invokevirtual index, 3)) (kk : LJ p l e s m args below meth c Q D cI cL cS aC aR w1 v (pc + 3) lv (.int r :: st)) : LJ p l e s m args below meth c Q D cI cL cS aC aR w v pc lv st0 := by
  subst hst
  intro H locs ls hP hR hS hl
  obtain ⟨hx, hb, hml, hown, hts, hK, hN, ⟨i1, i2, dj, a1, a2⟩, -⟩ := X
  have hA : ∀ q, AW 490 aC q → s.heap.size ≤ q := fun q ⟨k, hk, e⟩ => by rw [e]; exact a1 k hk
  have hr : ∃ cell : Cell, H[aC 472]? = some cell ∧ cell.vm.isStatics = false ∧ s.vm.findClass RX7 = some cell.cls := va_recv (q := (RX7, TX7, 6)) (ci := 6) hK hP rfl ((WW_get (oPV (cI := cI) (cL := cL) (cS := cS) (ad := aC)).1).trans (by rw [(oPV (cI := cI) (cL := cL) (cS := cS) (ad := aC)).2]))
  refine va_calli (va_runV (As := As) (rest := st) ⟨hx, hb, hml, hown, hts⟩ hM cw ⟨va_blind, hr, fun U hU hW => ⟨rfl, by show va_P _ _ _ U.heap; rw [hU]; exact hP, va_K.moved hW.alike hK, NW.warm hW hN⟩⟩ rfl hn hl.1.1 rfl (lv_room hst8) d ⟨Nat.le_refl _, Nat.le_refl _⟩) hS (fun q _ h => hA q h) hA (fun r2 u t H1 locs1 ht hvm hw hB hz hk hS1 => ?_)
  subst hw
  rw [ht] at hB
  refine kk H1 locs1 ls hB (fun k q hq => ?_) hS1 hl
  have hk8 := (WW_of hq).1
  have ho := hR k q hq
  refine ho.kept (hk _ ho.lt (fun ⟨j, hj, ej⟩ => ?_))
  rw [(WW_of hq).2] at ej
  exact dj j k hj hk8 ej.symm
theorem l_callR (X : LX p s m args c D cI cL cS aC aR b L xs) {y : MethodName} {bytes : ByteArray} {maxL n index : Nat} {ret : Option FieldType} {ws : List Cond} {rm : Room} {v1 : Wd} {st0 : List Value} {r : Int32} (As : List Value) (hM : Met l y ws rm (va_Pc (.ref (aR 0) :: As) (PW D (tR cI) 8 aR (cellR cI aR) v)) (QWi D 8 aR (cellR cI aR) r v1) 0 0 (AW 8 aR)) (cw : CallW room_1 s args RL RX8 index y bytes maxL ret ws rm 0 0 n) (hst : st0 = As.reverse ++ .ref (aR 0) :: st) (hn : As.length = n) (hst8 : (st.map fun v => v.category).sum ≤ 8) (d : decode cL_law pc = .ok (.invokevirtual index, 3)) (kk : LJ p l e s m args below meth c Q D cI cL cS aC aR w v1 (pc + 3) lv (.int r :: st)) : LJ p l e s m args below meth c Q D cI cL cS aC aR w v pc lv st0 := by
  subst hst
  intro H locs ls hP hR hS hl
  obtain ⟨hx, hb, hml, hown, hts, hK, hN, ⟨i1, i2, dj, a1, a2⟩, -⟩ := X
  have hK1 : va_K D vwCl (tR cI) s := hK.sub [0] rfl
  have hA : ∀ q, AW 8 aR q → s.heap.size ≤ q := fun q ⟨k, hk, e⟩ => by rw [e]; exact a2 k hk
  have hr : ∃ cell : Cell, H[aR 0]? = some cell ∧ cell.vm.isStatics = false ∧ s.vm.findClass RX8 = some cell.cls := va_recv (q := (RX8, TX8, 14)) (ci := 7) hK1 hR rfl ((WW_get (oMo (cI := cI) (ad := aR)).1).trans (by rw [(oMo (cI := cI) (ad := aR)).2]))
  refine va_calli (va_runV (As := As) (rest := st) ⟨hx, hb, hml, hown, hts⟩ hM cw ⟨va_blind, hr, fun U hU hW => ⟨rfl, by show va_P _ _ _ U.heap; rw [hU]; exact hR, va_K.moved hW.alike hK1, NW.warm hW hN⟩⟩ rfl hn hl.1.1 rfl (lv_room hst8) d ⟨Nat.le_refl _, Nat.le_refl _⟩) hS (fun q _ h => hA q h) hA (fun r2 u t H1 locs1 ht hvm hw hB hz hk hS1 => ?_)
  subst hw
  rw [ht] at hB
  refine kk H1 locs1 ls (fun k q hq => ?_) hB hS1 hl
  have hk8 := (WW_of hq).1
  have ho := hP k q hq
  refine ho.kept (hk _ ho.lt (fun ⟨j, hj, ej⟩ => ?_))
  rw [(WW_of hq).2] at ej
  exact dj k j hk8 hj ej
end LJR
section ARMS
variable {p : Program} {l : Launch} {e : Env} {s : State} {m : MethodId} {args : Array Value} {below : List Frame} {meth : Method} {c : Code} {Q : State → Prop} {D : va_G} {cI cL cS : ClassId} {aC aR : Nat → Nat} {w v : Wd} {b L : Nat} {xs : Nat → Int32}
/-- the loop's foot, for every state that both sides share -/
abbrev LK (p : Program) (l : Launch) (e : Env) (s : State) (m : MethodId) (args : Array Value) (below : List Frame) (meth : Method) (c : Code) (Q : State → Prop) (D : va_G) (cI cL cS : ClassId) (aC aR : Nat → Nat) (b i : Nat) (pc : Nat) : Prop := ∀ (S : ST) (w v : Wd), FC S w → FR S v → LJ p l e s m args below meth c Q D cI cL cS aC aR w v pc [(0, .ref b), (1, .ref (aC 472)), (2, .ref (aR 0)), (3, .int (nI i))] []
theorem arm_addProxy (X : LX p s m args c D cI cL cS aC aR b L xs) {i : Nat} (hi : i + 4 ≤ L) (K : LK p l e s m args below meth c Q D cI cL cS aC aR b i 886) : LK p l e s m args below meth c Q D cI cL cS aC aR b i 144 := by
  intro S w v hC hR
  have hts := X.2.2.2.2.1
  have I := X.2.2.2.2.2.2.2.1
  obtain ⟨w1, mC, hC1⟩ := f_add hC (xs (i + 1))
  obtain ⟨v1, mR, hR1⟩ := g_add hR (xs (i + 1))
  refine l_aload_n X 1 dL_law_144 rfl rfl ?_
  refine l_arg X (j := 1) rfl (by omega) dL_law_145 dL_law_146 dL_law_147 dL_law_148 dL_law_149 ?_
  refine l_callC X (r := (o_add S (xs (i + 1))).1) (w1 := w1) [.int (xs (i + 1))] (c_X7_addProxy I.1 mC) (cwV 1 hts gL_law_X7_addProxy rfl rfl rfl (by decide +kernel) ⟨(Nat.le_of_ble_eq_true rfl), (Nat.le_of_ble_eq_true rfl)⟩) rfl rfl (Nat.le_of_ble_eq_true rfl) dL_law_150 ?_
  refine l_aload_n X 2 dL_law_153 rfl rfl ?_
  refine l_arg X (j := 1) rfl (by omega) dL_law_154 dL_law_155 dL_law_156 dL_law_157 dL_law_158 ?_
  refine l_callR X (r := (o_add S (xs (i + 1))).1) (v1 := v1) [.int (xs (i + 1))] (c_X8_addProxy I.2.1 mR) (cwV 1 hts gL_law_X8_addProxy rfl rfl rfl (by decide +kernel) ⟨(Nat.le_of_ble_eq_true rfl), (Nat.le_of_ble_eq_true rfl)⟩) rfl rfl (Nat.le_of_ble_eq_true rfl) dL_law_159 ?_
  exact l_icmp_eq X (tgt := 886) dL_law_162 (by decide) (K (o_add S (xs (i + 1))).2 w1 v1 hC1 hR1)
theorem arm_setHome (X : LX p s m args c D cI cL cS aC aR b L xs) {i : Nat} (hi : i + 4 ≤ L) (K : LK p l e s m args below meth c Q D cI cL cS aC aR b i 886) : LK p l e s m args below meth c Q D cI cL cS aC aR b i 167 := by
  intro S w v hC hR
  have hts := X.2.2.2.2.1
  have I := X.2.2.2.2.2.2.2.1
  obtain ⟨w1, mC, hC1⟩ := f_home hC (xs (i + 1)) (xs (i + 2))
  obtain ⟨v1, mR, hR1⟩ := g_home hR (xs (i + 1)) (xs (i + 2))
  refine l_aload_n X 1 dL_law_167 rfl rfl ?_
  refine l_arg X (j := 1) rfl (by omega) dL_law_168 dL_law_169 dL_law_170 dL_law_171 dL_law_172 ?_
  refine l_arg X (j := 2) rfl (by omega) dL_law_173 dL_law_174 dL_law_175 dL_law_176 dL_law_177 ?_
  refine l_callC X (r := (o_home S (xs (i + 1)) (xs (i + 2))).1) (w1 := w1) [.int (xs (i + 1)), .int (xs (i + 2))] (c_X7_setHome I.1 mC) (cwV 2 hts gL_law_X7_setHome rfl rfl rfl (by decide +kernel) ⟨(Nat.le_of_ble_eq_true rfl), (Nat.le_of_ble_eq_true rfl)⟩) rfl rfl (Nat.le_of_ble_eq_true rfl) dL_law_178 ?_
  refine l_aload_n X 2 dL_law_181 rfl rfl ?_
  refine l_arg X (j := 1) rfl (by omega) dL_law_182 dL_law_183 dL_law_184 dL_law_185 dL_law_186 ?_
  refine l_arg X (j := 2) rfl (by omega) dL_law_187 dL_law_188 dL_law_189 dL_law_190 dL_law_191 ?_
  refine l_callR X (r := (o_home S (xs (i + 1)) (xs (i + 2))).1) (v1 := v1) [.int (xs (i + 1)), .int (xs (i + 2))] (c_X8_setHome I.2.1 mR) (cwV 2 hts gL_law_X8_setHome rfl rfl rfl (by decide +kernel) ⟨(Nat.le_of_ble_eq_true rfl), (Nat.le_of_ble_eq_true rfl)⟩) rfl rfl (Nat.le_of_ble_eq_true rfl) dL_law_192 ?_
  exact l_icmp_eq X (tgt := 886) dL_law_195 (by decide) (K (o_home S (xs (i + 1)) (xs (i + 2))).2 w1 v1 hC1 hR1)
theorem arm_setLimits (X : LX p s m args c D cI cL cS aC aR b L xs) {i : Nat} (hi : i + 4 ≤ L) (K : LK p l e s m args below meth c Q D cI cL cS aC aR b i 886) : LK p l e s m args below meth c Q D cI cL cS aC aR b i 200 := by
  intro S w v hC hR
  have hts := X.2.2.2.2.1
  have I := X.2.2.2.2.2.2.2.1
  obtain ⟨w1, mC, hC1⟩ := f_lim hC (xs (i + 1)) (xs (i + 2))
  obtain ⟨v1, mR, hR1⟩ := g_lim hR (xs (i + 1)) (xs (i + 2))
  refine l_aload_n X 1 dL_law_200 rfl rfl ?_
  refine l_arg X (j := 1) rfl (by omega) dL_law_201 dL_law_202 dL_law_203 dL_law_204 dL_law_205 ?_
  refine l_arg X (j := 2) rfl (by omega) dL_law_206 dL_law_207 dL_law_208 dL_law_209 dL_law_210 ?_
  refine l_callC X (r := (o_lim S (xs (i + 1)) (xs (i + 2))).1) (w1 := w1) [.int (xs (i + 1)), .int (xs (i + 2))] (c_X7_setLimits I.1 mC) (cwV 2 hts gL_law_X7_setLimits rfl rfl rfl (by decide +kernel) ⟨(Nat.le_of_ble_eq_true rfl), (Nat.le_of_ble_eq_true rfl)⟩) rfl rfl (Nat.le_of_ble_eq_true rfl) dL_law_211 ?_
  refine l_aload_n X 2 dL_law_214 rfl rfl ?_
  refine l_arg X (j := 1) rfl (by omega) dL_law_215 dL_law_216 dL_law_217 dL_law_218 dL_law_219 ?_
  refine l_arg X (j := 2) rfl (by omega) dL_law_220 dL_law_221 dL_law_222 dL_law_223 dL_law_224 ?_
  refine l_callR X (r := (o_lim S (xs (i + 1)) (xs (i + 2))).1) (v1 := v1) [.int (xs (i + 1)), .int (xs (i + 2))] (c_X8_setLimits I.2.1 mR) (cwV 2 hts gL_law_X8_setLimits rfl rfl rfl (by decide +kernel) ⟨(Nat.le_of_ble_eq_true rfl), (Nat.le_of_ble_eq_true rfl)⟩) rfl rfl (Nat.le_of_ble_eq_true rfl) dL_law_225 ?_
  exact l_icmp_eq X (tgt := 886) dL_law_228 (by decide) (K (o_lim S (xs (i + 1)) (xs (i + 2))).2 w1 v1 hC1 hR1)
theorem arm_proxy (X : LX p s m args c D cI cL cS aC aR b L xs) {i : Nat} (hi : i + 4 ≤ L) (K : LK p l e s m args below meth c Q D cI cL cS aC aR b i 886) : LK p l e s m args below meth c Q D cI cL cS aC aR b i 233 := by
  intro S w v hC hR
  have hts := X.2.2.2.2.1
  have I := X.2.2.2.2.2.2.2.1
  obtain ⟨w1, mC, hC1⟩ := f_proxy hC (xs (i + 1)) (xs (i + 2))
  obtain ⟨v1, mR, hR1⟩ := g_proxy hR (xs (i + 1)) (xs (i + 2))
  refine l_aload_n X 1 dL_law_233 rfl rfl ?_
  refine l_arg X (j := 1) rfl (by omega) dL_law_234 dL_law_235 dL_law_236 dL_law_237 dL_law_238 ?_
  refine l_arg X (j := 2) rfl (by omega) dL_law_239 dL_law_240 dL_law_241 dL_law_242 dL_law_243 ?_
  refine l_callC X (r := (sq_proxy S.1 (dn (xs (i + 1))) (dn (xs (i + 2))))) (w1 := w1) [.int (xs (i + 1)), .int (xs (i + 2))] (c_X7_proxy I.1 mC) (cwV 2 hts gL_law_X7_proxy rfl rfl rfl (by decide +kernel) ⟨(Nat.le_of_ble_eq_true rfl), (Nat.le_of_ble_eq_true rfl)⟩) rfl rfl (Nat.le_of_ble_eq_true rfl) dL_law_244 ?_
  refine l_aload_n X 2 dL_law_247 rfl rfl ?_
  refine l_arg X (j := 1) rfl (by omega) dL_law_248 dL_law_249 dL_law_250 dL_law_251 dL_law_252 ?_
  refine l_arg X (j := 2) rfl (by omega) dL_law_253 dL_law_254 dL_law_255 dL_law_256 dL_law_257 ?_
  refine l_callR X (r := (sq_proxy S.1 (dn (xs (i + 1))) (dn (xs (i + 2))))) (v1 := v1) [.int (xs (i + 1)), .int (xs (i + 2))] (c_X8_proxy I.2.1 mR) (cwV 2 hts gL_law_X8_proxy rfl rfl rfl (by decide +kernel) ⟨(Nat.le_of_ble_eq_true rfl), (Nat.le_of_ble_eq_true rfl)⟩) rfl rfl (Nat.le_of_ble_eq_true rfl) dL_law_258 ?_
  exact l_icmp_eq X (tgt := 886) dL_law_261 (by decide) (K S w1 v1 hC1 hR1)
theorem arm_count (X : LX p s m args c D cI cL cS aC aR b L xs) {i : Nat} (hi : i + 4 ≤ L) (K : LK p l e s m args below meth c Q D cI cL cS aC aR b i 886) : LK p l e s m args below meth c Q D cI cL cS aC aR b i 266 := by
  intro S w v hC hR
  have hts := X.2.2.2.2.1
  have I := X.2.2.2.2.2.2.2.1
  have mC := f_count hC (xs (i + 1))
  have mR := g_count hR (xs (i + 1))
  refine l_aload_n X 1 dL_law_266 rfl rfl ?_
  refine l_arg X (j := 1) rfl (by omega) dL_law_267 dL_law_268 dL_law_269 dL_law_270 dL_law_271 ?_
  refine l_callC X (r := (sq_count S.1 S.2.1.length (dn (xs (i + 1))))) (w1 := w) [.int (xs (i + 1))] (c_X7_count I.1 mC) (cwV 1 hts gL_law_X7_count rfl rfl rfl (by decide +kernel) ⟨(Nat.le_of_ble_eq_true rfl), (Nat.le_of_ble_eq_true rfl)⟩) rfl rfl (Nat.le_of_ble_eq_true rfl) dL_law_272 ?_
  refine l_aload_n X 2 dL_law_275 rfl rfl ?_
  refine l_arg X (j := 1) rfl (by omega) dL_law_276 dL_law_277 dL_law_278 dL_law_279 dL_law_280 ?_
  refine l_callR X (r := (sq_count S.1 S.2.1.length (dn (xs (i + 1))))) (v1 := v) [.int (xs (i + 1))] (c_X8_count I.2.1 mR) (cwV 1 hts gL_law_X8_count rfl rfl rfl (by decide +kernel) ⟨(Nat.le_of_ble_eq_true rfl), (Nat.le_of_ble_eq_true rfl)⟩) rfl rfl (Nat.le_of_ble_eq_true rfl) dL_law_281 ?_
  exact l_icmp_eq X (tgt := 886) dL_law_284 (by decide) (K S w v hC hR)
theorem arm_write (X : LX p s m args c D cI cL cS aC aR b L xs) {i : Nat} (hi : i + 4 ≤ L) (K : LK p l e s m args below meth c Q D cI cL cS aC aR b i 886) : LK p l e s m args below meth c Q D cI cL cS aC aR b i 289 := by
  intro S w v hC hR
  have hts := X.2.2.2.2.1
  have I := X.2.2.2.2.2.2.2.1
  obtain ⟨w1, mC, hC1⟩ := f_write hC (xs (i + 1))
  obtain ⟨v1, mR, hR1⟩ := g_write hR (xs (i + 1))
  refine l_aload_n X 1 dL_law_289 rfl rfl ?_
  refine l_arg X (j := 1) rfl (by omega) dL_law_290 dL_law_291 dL_law_292 dL_law_293 dL_law_294 ?_
  refine l_callC X (r := (o_write S (xs (i + 1))).1) (w1 := w1) [.int (xs (i + 1))] (c_X7_write I.1 mC) (cwV 1 hts gL_law_X7_write rfl rfl rfl (by decide +kernel) ⟨(Nat.le_of_ble_eq_true rfl), (Nat.le_of_ble_eq_true rfl)⟩) rfl rfl (Nat.le_of_ble_eq_true rfl) dL_law_295 ?_
  refine l_aload_n X 2 dL_law_298 rfl rfl ?_
  refine l_arg X (j := 1) rfl (by omega) dL_law_299 dL_law_300 dL_law_301 dL_law_302 dL_law_303 ?_
  refine l_callR X (r := (o_write S (xs (i + 1))).1) (v1 := v1) [.int (xs (i + 1))] (c_X8_write I.2.1 mR) (cwV 1 hts gL_law_X8_write rfl rfl rfl (by decide +kernel) ⟨(Nat.le_of_ble_eq_true rfl), (Nat.le_of_ble_eq_true rfl)⟩) rfl rfl (Nat.le_of_ble_eq_true rfl) dL_law_304 ?_
  exact l_icmp_eq X (tgt := 886) dL_law_307 (by decide) (K (o_write S (xs (i + 1))).2 w1 v1 hC1 hR1)
theorem arm_cause (X : LX p s m args c D cI cL cS aC aR b L xs) {i : Nat} (hi : i + 4 ≤ L) (K : LK p l e s m args below meth c Q D cI cL cS aC aR b i 886) : LK p l e s m args below meth c Q D cI cL cS aC aR b i 312 := by
  intro S w v hC hR
  have hts := X.2.2.2.2.1
  have I := X.2.2.2.2.2.2.2.1
  have mC := q_cause hC.1 hC.2.1.1 (xs (i + 1)) (xs (i + 2)) (xs (i + 3))
  have mR := g_cause hR (xs (i + 1)) (xs (i + 2)) (xs (i + 3))
  refine l_aload_n X 1 dL_law_312 rfl rfl ?_
  refine l_arg X (j := 1) rfl (by omega) dL_law_313 dL_law_314 dL_law_315 dL_law_316 dL_law_317 ?_
  refine l_arg X (j := 2) rfl (by omega) dL_law_318 dL_law_319 dL_law_320 dL_law_321 dL_law_322 ?_
  refine l_arg X (j := 3) rfl (by omega) dL_law_323 dL_law_324 dL_law_325 dL_law_326 dL_law_327 ?_
  refine l_callC X (r := (sq_cause S.1 (dn (xs (i + 1))) (dn (xs (i + 2))) (dn (xs (i + 3))))) (w1 := w) [.int (xs (i + 1)), .int (xs (i + 2)), .int (xs (i + 3))] (c_X7_cause I.1 mC) (cwV 3 hts gL_law_X7_cause rfl rfl rfl (by decide +kernel) ⟨(Nat.le_of_ble_eq_true rfl), (Nat.le_of_ble_eq_true rfl)⟩) rfl rfl (Nat.le_of_ble_eq_true rfl) dL_law_328 ?_
  refine l_aload_n X 2 dL_law_331 rfl rfl ?_
  refine l_arg X (j := 1) rfl (by omega) dL_law_332 dL_law_333 dL_law_334 dL_law_335 dL_law_336 ?_
  refine l_arg X (j := 2) rfl (by omega) dL_law_337 dL_law_338 dL_law_339 dL_law_340 dL_law_341 ?_
  refine l_arg X (j := 3) rfl (by omega) dL_law_342 dL_law_343 dL_law_344 dL_law_345 dL_law_346 ?_
  refine l_callR X (r := (sq_cause S.1 (dn (xs (i + 1))) (dn (xs (i + 2))) (dn (xs (i + 3))))) (v1 := v) [.int (xs (i + 1)), .int (xs (i + 2)), .int (xs (i + 3))] (c_X8_cause I.2.1 mR) (cwV 3 hts gL_law_X8_cause rfl rfl rfl (by decide +kernel) ⟨(Nat.le_of_ble_eq_true rfl), (Nat.le_of_ble_eq_true rfl)⟩) rfl rfl (Nat.le_of_ble_eq_true rfl) dL_law_347 ?_
  exact l_icmp_eq X (tgt := 886) dL_law_350 (by decide) (K S w v hC hR)
theorem arm_deliver (X : LX p s m args c D cI cL cS aC aR b L xs) {i : Nat} (hi : i + 4 ≤ L) (K : LK p l e s m args below meth c Q D cI cL cS aC aR b i 886) : LK p l e s m args below meth c Q D cI cL cS aC aR b i 355 := by
  intro S w v hC hR
  have hts := X.2.2.2.2.1
  have I := X.2.2.2.2.2.2.2.1
  obtain ⟨w1, mC, hC1⟩ := f_deliver hC (xs (i + 1)) (xs (i + 2)) (xs (i + 3))
  obtain ⟨v1, mR, hR1⟩ := g_deliver hR (xs (i + 1)) (xs (i + 2)) (xs (i + 3))
  refine l_aload_n X 1 dL_law_355 rfl rfl ?_
  refine l_arg X (j := 1) rfl (by omega) dL_law_356 dL_law_357 dL_law_358 dL_law_359 dL_law_360 ?_
  refine l_arg X (j := 2) rfl (by omega) dL_law_361 dL_law_362 dL_law_363 dL_law_364 dL_law_365 ?_
  refine l_arg X (j := 3) rfl (by omega) dL_law_366 dL_law_367 dL_law_368 dL_law_369 dL_law_370 ?_
  refine l_callC X (r := (o_deliver S (xs (i + 1)) (xs (i + 2)) (xs (i + 3))).1) (w1 := w1) [.int (xs (i + 1)), .int (xs (i + 2)), .int (xs (i + 3))] (c_X7_deliver I.1 mC) (cwV 3 hts gL_law_X7_deliver rfl rfl rfl (by decide +kernel) ⟨(Nat.le_of_ble_eq_true rfl), (Nat.le_of_ble_eq_true rfl)⟩) rfl rfl (Nat.le_of_ble_eq_true rfl) dL_law_371 ?_
  refine l_aload_n X 2 dL_law_374 rfl rfl ?_
  refine l_arg X (j := 1) rfl (by omega) dL_law_375 dL_law_376 dL_law_377 dL_law_378 dL_law_379 ?_
  refine l_arg X (j := 2) rfl (by omega) dL_law_380 dL_law_381 dL_law_382 dL_law_383 dL_law_384 ?_
  refine l_arg X (j := 3) rfl (by omega) dL_law_385 dL_law_386 dL_law_387 dL_law_388 dL_law_389 ?_
  refine l_callR X (r := (o_deliver S (xs (i + 1)) (xs (i + 2)) (xs (i + 3))).1) (v1 := v1) [.int (xs (i + 1)), .int (xs (i + 2)), .int (xs (i + 3))] (c_X8_deliver I.2.1 mR) (cwV 3 hts gL_law_X8_deliver rfl rfl rfl (by decide +kernel) ⟨(Nat.le_of_ble_eq_true rfl), (Nat.le_of_ble_eq_true rfl)⟩) rfl rfl (Nat.le_of_ble_eq_true rfl) dL_law_390 ?_
  exact l_icmp_eq X (tgt := 886) dL_law_393 (by decide) (K (o_deliver S (xs (i + 1)) (xs (i + 2)) (xs (i + 3))).2 w1 v1 hC1 hR1)
theorem arm_lose (X : LX p s m args c D cI cL cS aC aR b L xs) {i : Nat} (hi : i + 4 ≤ L) (K : LK p l e s m args below meth c Q D cI cL cS aC aR b i 886) : LK p l e s m args below meth c Q D cI cL cS aC aR b i 398 := by
  intro S w v hC hR
  have hts := X.2.2.2.2.1
  have I := X.2.2.2.2.2.2.2.1
  obtain ⟨w1, mC, hC1⟩ := f_lose hC (xs (i + 1)) (xs (i + 2)) (xs (i + 3))
  obtain ⟨v1, mR, hR1⟩ := g_lose hR (xs (i + 1)) (xs (i + 2)) (xs (i + 3))
  refine l_aload_n X 1 dL_law_398 rfl rfl ?_
  refine l_arg X (j := 1) rfl (by omega) dL_law_399 dL_law_400 dL_law_401 dL_law_402 dL_law_403 ?_
  refine l_arg X (j := 2) rfl (by omega) dL_law_404 dL_law_405 dL_law_406 dL_law_407 dL_law_408 ?_
  refine l_arg X (j := 3) rfl (by omega) dL_law_409 dL_law_410 dL_law_411 dL_law_412 dL_law_413 ?_
  refine l_callC X (r := (o_lose S (xs (i + 1)) (xs (i + 2)) (xs (i + 3))).1) (w1 := w1) [.int (xs (i + 1)), .int (xs (i + 2)), .int (xs (i + 3))] (c_X7_lose I.1 mC) (cwV 3 hts gL_law_X7_lose rfl rfl rfl (by decide +kernel) ⟨(Nat.le_of_ble_eq_true rfl), (Nat.le_of_ble_eq_true rfl)⟩) rfl rfl (Nat.le_of_ble_eq_true rfl) dL_law_414 ?_
  refine l_aload_n X 2 dL_law_417 rfl rfl ?_
  refine l_arg X (j := 1) rfl (by omega) dL_law_418 dL_law_419 dL_law_420 dL_law_421 dL_law_422 ?_
  refine l_arg X (j := 2) rfl (by omega) dL_law_423 dL_law_424 dL_law_425 dL_law_426 dL_law_427 ?_
  refine l_arg X (j := 3) rfl (by omega) dL_law_428 dL_law_429 dL_law_430 dL_law_431 dL_law_432 ?_
  refine l_callR X (r := (o_lose S (xs (i + 1)) (xs (i + 2)) (xs (i + 3))).1) (v1 := v1) [.int (xs (i + 1)), .int (xs (i + 2)), .int (xs (i + 3))] (c_X8_lose I.2.1 mR) (cwV 3 hts gL_law_X8_lose rfl rfl rfl (by decide +kernel) ⟨(Nat.le_of_ble_eq_true rfl), (Nat.le_of_ble_eq_true rfl)⟩) rfl rfl (Nat.le_of_ble_eq_true rfl) dL_law_433 ?_
  exact l_icmp_eq X (tgt := 886) dL_law_436 (by decide) (K (o_lose S (xs (i + 1)) (xs (i + 2)) (xs (i + 3))).2 w1 v1 hC1 hR1)
theorem arm_queued (X : LX p s m args c D cI cL cS aC aR b L xs) {i : Nat} (hi : i + 4 ≤ L) (K : LK p l e s m args below meth c Q D cI cL cS aC aR b i 886) : LK p l e s m args below meth c Q D cI cL cS aC aR b i 441 := by
  intro S w v hC hR
  have hts := X.2.2.2.2.1
  have I := X.2.2.2.2.2.2.2.1
  have mC := q_queued hC.1 hC.2.1.1 (xs (i + 1)) (xs (i + 2)) (xs (i + 3))
  have mR := g_queued hR (xs (i + 1)) (xs (i + 2)) (xs (i + 3))
  refine l_aload_n X 1 dL_law_441 rfl rfl ?_
  refine l_arg X (j := 1) rfl (by omega) dL_law_442 dL_law_443 dL_law_444 dL_law_445 dL_law_446 ?_
  refine l_arg X (j := 2) rfl (by omega) dL_law_447 dL_law_448 dL_law_449 dL_law_450 dL_law_451 ?_
  refine l_arg X (j := 3) rfl (by omega) dL_law_452 dL_law_453 dL_law_454 dL_law_455 dL_law_456 ?_
  refine l_callC X (r := (sq_queued S.1 (dn (xs (i + 1))) (dn (xs (i + 2))) (xs (i + 3)))) (w1 := w) [.int (xs (i + 1)), .int (xs (i + 2)), .int (xs (i + 3))] (c_X7_queued I.1 mC) (cwV 3 hts gL_law_X7_queued rfl rfl rfl (by decide +kernel) ⟨(Nat.le_of_ble_eq_true rfl), (Nat.le_of_ble_eq_true rfl)⟩) rfl rfl (Nat.le_of_ble_eq_true rfl) dL_law_457 ?_
  refine l_aload_n X 2 dL_law_460 rfl rfl ?_
  refine l_arg X (j := 1) rfl (by omega) dL_law_461 dL_law_462 dL_law_463 dL_law_464 dL_law_465 ?_
  refine l_arg X (j := 2) rfl (by omega) dL_law_466 dL_law_467 dL_law_468 dL_law_469 dL_law_470 ?_
  refine l_arg X (j := 3) rfl (by omega) dL_law_471 dL_law_472 dL_law_473 dL_law_474 dL_law_475 ?_
  refine l_callR X (r := (sq_queued S.1 (dn (xs (i + 1))) (dn (xs (i + 2))) (xs (i + 3)))) (v1 := v) [.int (xs (i + 1)), .int (xs (i + 2)), .int (xs (i + 3))] (c_X8_queued I.2.1 mR) (cwV 3 hts gL_law_X8_queued rfl rfl rfl (by decide +kernel) ⟨(Nat.le_of_ble_eq_true rfl), (Nat.le_of_ble_eq_true rfl)⟩) rfl rfl (Nat.le_of_ble_eq_true rfl) dL_law_476 ?_
  exact l_icmp_eq X (tgt := 886) dL_law_479 (by decide) (K S w v hC hR)
theorem arm_bound (X : LX p s m args c D cI cL cS aC aR b L xs) {i : Nat} (hi : i + 4 ≤ L) (K : LK p l e s m args below meth c Q D cI cL cS aC aR b i 886) : LK p l e s m args below meth c Q D cI cL cS aC aR b i 484 := by
  intro S w v hC hR
  have hts := X.2.2.2.2.1
  have I := X.2.2.2.2.2.2.2.1
  have mC := q_bound hC.1 hC.2.1.1 (xs (i + 1)) (xs (i + 2))
  have mR := g_bound hR (xs (i + 1)) (xs (i + 2))
  refine l_aload_n X 1 dL_law_484 rfl rfl ?_
  refine l_arg X (j := 1) rfl (by omega) dL_law_485 dL_law_486 dL_law_487 dL_law_488 dL_law_489 ?_
  refine l_arg X (j := 2) rfl (by omega) dL_law_490 dL_law_491 dL_law_492 dL_law_493 dL_law_494 ?_
  refine l_callC X (r := (sq_bound S.1 (dn (xs (i + 1))) (dn (xs (i + 2))))) (w1 := w) [.int (xs (i + 1)), .int (xs (i + 2))] (c_X7_bound I.1 mC) (cwV 2 hts gL_law_X7_bound rfl rfl rfl (by decide +kernel) ⟨(Nat.le_of_ble_eq_true rfl), (Nat.le_of_ble_eq_true rfl)⟩) rfl rfl (Nat.le_of_ble_eq_true rfl) dL_law_495 ?_
  refine l_aload_n X 2 dL_law_498 rfl rfl ?_
  refine l_arg X (j := 1) rfl (by omega) dL_law_499 dL_law_500 dL_law_501 dL_law_502 dL_law_503 ?_
  refine l_arg X (j := 2) rfl (by omega) dL_law_504 dL_law_505 dL_law_506 dL_law_507 dL_law_508 ?_
  refine l_callR X (r := (sq_bound S.1 (dn (xs (i + 1))) (dn (xs (i + 2))))) (v1 := v) [.int (xs (i + 1)), .int (xs (i + 2))] (c_X8_bound I.2.1 mR) (cwV 2 hts gL_law_X8_bound rfl rfl rfl (by decide +kernel) ⟨(Nat.le_of_ble_eq_true rfl), (Nat.le_of_ble_eq_true rfl)⟩) rfl rfl (Nat.le_of_ble_eq_true rfl) dL_law_509 ?_
  exact l_icmp_eq X (tgt := 886) dL_law_512 (by decide) (K S w v hC hR)
theorem arm_exception (X : LX p s m args c D cI cL cS aC aR b L xs) {i : Nat} (hi : i + 4 ≤ L) (K : LK p l e s m args below meth c Q D cI cL cS aC aR b i 886) : LK p l e s m args below meth c Q D cI cL cS aC aR b i 517 := by
  intro S w v hC hR
  have hts := X.2.2.2.2.1
  have I := X.2.2.2.2.2.2.2.1
  have mC := q_exc hC.1 hC.2.1.1 (xs (i + 1)) (xs (i + 2)) (xs (i + 3))
  have mR := g_exc hR (xs (i + 1)) (xs (i + 2)) (xs (i + 3))
  refine l_aload_n X 1 dL_law_517 rfl rfl ?_
  refine l_arg X (j := 1) rfl (by omega) dL_law_518 dL_law_519 dL_law_520 dL_law_521 dL_law_522 ?_
  refine l_arg X (j := 2) rfl (by omega) dL_law_523 dL_law_524 dL_law_525 dL_law_526 dL_law_527 ?_
  refine l_arg X (j := 3) rfl (by omega) dL_law_528 dL_law_529 dL_law_530 dL_law_531 dL_law_532 ?_
  refine l_callC X (r := (sq_exc S.1 (dn (xs (i + 1))) (dn (xs (i + 2))) (xs (i + 3)))) (w1 := w) [.int (xs (i + 1)), .int (xs (i + 2)), .int (xs (i + 3))] (c_X7_exception I.1 mC) (cwV 3 hts gL_law_X7_exception rfl rfl rfl (by decide +kernel) ⟨(Nat.le_of_ble_eq_true rfl), (Nat.le_of_ble_eq_true rfl)⟩) rfl rfl (Nat.le_of_ble_eq_true rfl) dL_law_533 ?_
  refine l_aload_n X 2 dL_law_536 rfl rfl ?_
  refine l_arg X (j := 1) rfl (by omega) dL_law_537 dL_law_538 dL_law_539 dL_law_540 dL_law_541 ?_
  refine l_arg X (j := 2) rfl (by omega) dL_law_542 dL_law_543 dL_law_544 dL_law_545 dL_law_546 ?_
  refine l_arg X (j := 3) rfl (by omega) dL_law_547 dL_law_548 dL_law_549 dL_law_550 dL_law_551 ?_
  refine l_callR X (r := (sq_exc S.1 (dn (xs (i + 1))) (dn (xs (i + 2))) (xs (i + 3)))) (v1 := v) [.int (xs (i + 1)), .int (xs (i + 2)), .int (xs (i + 3))] (c_X8_exception I.2.1 mR) (cwV 3 hts gL_law_X8_exception rfl rfl rfl (by decide +kernel) ⟨(Nat.le_of_ble_eq_true rfl), (Nat.le_of_ble_eq_true rfl)⟩) rfl rfl (Nat.le_of_ble_eq_true rfl) dL_law_552 ?_
  exact l_icmp_eq X (tgt := 886) dL_law_555 (by decide) (K S w v hC hR)
theorem arm_served (X : LX p s m args c D cI cL cS aC aR b L xs) {i : Nat} (hi : i + 4 ≤ L) (K : LK p l e s m args below meth c Q D cI cL cS aC aR b i 886) : LK p l e s m args below meth c Q D cI cL cS aC aR b i 560 := by
  intro S w v hC hR
  have hts := X.2.2.2.2.1
  have I := X.2.2.2.2.2.2.2.1
  obtain ⟨w1, mC, hC1⟩ := f_served hC (xs (i + 1)) (xs (i + 2))
  obtain ⟨v1, mR, hR1⟩ := g_served hR (xs (i + 1)) (xs (i + 2))
  refine l_aload_n X 1 dL_law_560 rfl rfl ?_
  refine l_arg X (j := 1) rfl (by omega) dL_law_561 dL_law_562 dL_law_563 dL_law_564 dL_law_565 ?_
  refine l_arg X (j := 2) rfl (by omega) dL_law_566 dL_law_567 dL_law_568 dL_law_569 dL_law_570 ?_
  refine l_callC X (r := (sq_served S.1 (dn (xs (i + 1))) (dn (xs (i + 2))))) (w1 := w1) [.int (xs (i + 1)), .int (xs (i + 2))] (c_X7_served I.1 mC) (cwV 2 hts gL_law_X7_served rfl rfl rfl (by decide +kernel) ⟨(Nat.le_of_ble_eq_true rfl), (Nat.le_of_ble_eq_true rfl)⟩) rfl rfl (Nat.le_of_ble_eq_true rfl) dL_law_571 ?_
  refine l_aload_n X 2 dL_law_574 rfl rfl ?_
  refine l_arg X (j := 1) rfl (by omega) dL_law_575 dL_law_576 dL_law_577 dL_law_578 dL_law_579 ?_
  refine l_arg X (j := 2) rfl (by omega) dL_law_580 dL_law_581 dL_law_582 dL_law_583 dL_law_584 ?_
  refine l_callR X (r := (sq_served S.1 (dn (xs (i + 1))) (dn (xs (i + 2))))) (v1 := v1) [.int (xs (i + 1)), .int (xs (i + 2))] (c_X8_served I.2.1 mR) (cwV 2 hts gL_law_X8_served rfl rfl rfl (by decide +kernel) ⟨(Nat.le_of_ble_eq_true rfl), (Nat.le_of_ble_eq_true rfl)⟩) rfl rfl (Nat.le_of_ble_eq_true rfl) dL_law_585 ?_
  exact l_icmp_eq X (tgt := 886) dL_law_588 (by decide) (K S w1 v1 hC1 hR1)
theorem arm_status (X : LX p s m args c D cI cL cS aC aR b L xs) {i : Nat} (hi : i + 4 ≤ L) (K : LK p l e s m args below meth c Q D cI cL cS aC aR b i 886) : LK p l e s m args below meth c Q D cI cL cS aC aR b i 593 := by
  intro S w v hC hR
  have hts := X.2.2.2.2.1
  have I := X.2.2.2.2.2.2.2.1
  obtain ⟨w1, mC, hC1⟩ := f_status hC (xs (i + 1)) (xs (i + 2)) (xs (i + 3))
  obtain ⟨v1, mR, hR1⟩ := g_status hR (xs (i + 1)) (xs (i + 2)) (xs (i + 3))
  refine l_aload_n X 1 dL_law_593 rfl rfl ?_
  refine l_arg X (j := 1) rfl (by omega) dL_law_594 dL_law_595 dL_law_596 dL_law_597 dL_law_598 ?_
  refine l_arg X (j := 2) rfl (by omega) dL_law_599 dL_law_600 dL_law_601 dL_law_602 dL_law_603 ?_
  refine l_arg X (j := 3) rfl (by omega) dL_law_604 dL_law_605 dL_law_606 dL_law_607 dL_law_608 ?_
  refine l_callC X (r := (sq_status S.1 (dn (xs (i + 1))) (dn (xs (i + 2))) (dn (xs (i + 3))))) (w1 := w1) [.int (xs (i + 1)), .int (xs (i + 2)), .int (xs (i + 3))] (c_X7_status I.1 mC) (cwV 3 hts gL_law_X7_status rfl rfl rfl (by decide +kernel) ⟨(Nat.le_of_ble_eq_true rfl), (Nat.le_of_ble_eq_true rfl)⟩) rfl rfl (Nat.le_of_ble_eq_true rfl) dL_law_609 ?_
  refine l_aload_n X 2 dL_law_612 rfl rfl ?_
  refine l_arg X (j := 1) rfl (by omega) dL_law_613 dL_law_614 dL_law_615 dL_law_616 dL_law_617 ?_
  refine l_arg X (j := 2) rfl (by omega) dL_law_618 dL_law_619 dL_law_620 dL_law_621 dL_law_622 ?_
  refine l_arg X (j := 3) rfl (by omega) dL_law_623 dL_law_624 dL_law_625 dL_law_626 dL_law_627 ?_
  refine l_callR X (r := (sq_status S.1 (dn (xs (i + 1))) (dn (xs (i + 2))) (dn (xs (i + 3))))) (v1 := v1) [.int (xs (i + 1)), .int (xs (i + 2)), .int (xs (i + 3))] (c_X8_status I.2.1 mR) (cwV 3 hts gL_law_X8_status rfl rfl rfl (by decide +kernel) ⟨(Nat.le_of_ble_eq_true rfl), (Nat.le_of_ble_eq_true rfl)⟩) rfl rfl (Nat.le_of_ble_eq_true rfl) dL_law_628 ?_
  exact l_icmp_eq X (tgt := 886) dL_law_631 (by decide) (K S w1 v1 hC1 hR1)
theorem arm_missing (X : LX p s m args c D cI cL cS aC aR b L xs) {i : Nat} (hi : i + 4 ≤ L) (K : LK p l e s m args below meth c Q D cI cL cS aC aR b i 886) : LK p l e s m args below meth c Q D cI cL cS aC aR b i 636 := by
  intro S w v hC hR
  have hts := X.2.2.2.2.1
  have I := X.2.2.2.2.2.2.2.1
  obtain ⟨w1, mC, hC1⟩ := f_missing hC (xs (i + 1)) (xs (i + 2)) (xs (i + 3))
  obtain ⟨v1, mR, hR1⟩ := g_missing hR (xs (i + 1)) (xs (i + 2)) (xs (i + 3))
  refine l_aload_n X 1 dL_law_636 rfl rfl ?_
  refine l_arg X (j := 1) rfl (by omega) dL_law_637 dL_law_638 dL_law_639 dL_law_640 dL_law_641 ?_
  refine l_arg X (j := 2) rfl (by omega) dL_law_642 dL_law_643 dL_law_644 dL_law_645 dL_law_646 ?_
  refine l_arg X (j := 3) rfl (by omega) dL_law_647 dL_law_648 dL_law_649 dL_law_650 dL_law_651 ?_
  refine l_callC X (r := (sq_missing S.1 (dn (xs (i + 1))) (dn (xs (i + 2))) (dn (xs (i + 3))))) (w1 := w1) [.int (xs (i + 1)), .int (xs (i + 2)), .int (xs (i + 3))] (c_X7_missing I.1 mC) (cwV 3 hts gL_law_X7_missing rfl rfl rfl (by decide +kernel) ⟨(Nat.le_of_ble_eq_true rfl), (Nat.le_of_ble_eq_true rfl)⟩) rfl rfl (Nat.le_of_ble_eq_true rfl) dL_law_652 ?_
  refine l_aload_n X 2 dL_law_655 rfl rfl ?_
  refine l_arg X (j := 1) rfl (by omega) dL_law_656 dL_law_657 dL_law_658 dL_law_659 dL_law_660 ?_
  refine l_arg X (j := 2) rfl (by omega) dL_law_661 dL_law_662 dL_law_663 dL_law_664 dL_law_665 ?_
  refine l_arg X (j := 3) rfl (by omega) dL_law_666 dL_law_667 dL_law_668 dL_law_669 dL_law_670 ?_
  refine l_callR X (r := (sq_missing S.1 (dn (xs (i + 1))) (dn (xs (i + 2))) (dn (xs (i + 3))))) (v1 := v1) [.int (xs (i + 1)), .int (xs (i + 2)), .int (xs (i + 3))] (c_X8_missing I.2.1 mR) (cwV 3 hts gL_law_X8_missing rfl rfl rfl (by decide +kernel) ⟨(Nat.le_of_ble_eq_true rfl), (Nat.le_of_ble_eq_true rfl)⟩) rfl rfl (Nat.le_of_ble_eq_true rfl) dL_law_671 ?_
  exact l_icmp_eq X (tgt := 886) dL_law_674 (by decide) (K S w1 v1 hC1 hR1)
theorem arm_kept (X : LX p s m args c D cI cL cS aC aR b L xs) {i : Nat} (hi : i + 4 ≤ L) (K : LK p l e s m args below meth c Q D cI cL cS aC aR b i 886) : LK p l e s m args below meth c Q D cI cL cS aC aR b i 679 := by
  intro S w v hC hR
  have hts := X.2.2.2.2.1
  have I := X.2.2.2.2.2.2.2.1
  have mC := q_kept hC.1 hC.2.1.1 (xs (i + 1)) (xs (i + 2))
  have mR := g_kept hR (xs (i + 1)) (xs (i + 2))
  refine l_aload_n X 1 dL_law_679 rfl rfl ?_
  refine l_arg X (j := 1) rfl (by omega) dL_law_680 dL_law_681 dL_law_682 dL_law_683 dL_law_684 ?_
  refine l_arg X (j := 2) rfl (by omega) dL_law_685 dL_law_686 dL_law_687 dL_law_688 dL_law_689 ?_
  refine l_callC X (r := (sq_kept S.1 (dn (xs (i + 1))) (xs (i + 2)))) (w1 := w) [.int (xs (i + 1)), .int (xs (i + 2))] (c_X7_kept I.1 mC) (cwV 2 hts gL_law_X7_kept rfl rfl rfl (by decide +kernel) ⟨(Nat.le_of_ble_eq_true rfl), (Nat.le_of_ble_eq_true rfl)⟩) rfl rfl (Nat.le_of_ble_eq_true rfl) dL_law_690 ?_
  refine l_aload_n X 2 dL_law_693 rfl rfl ?_
  refine l_arg X (j := 1) rfl (by omega) dL_law_694 dL_law_695 dL_law_696 dL_law_697 dL_law_698 ?_
  refine l_arg X (j := 2) rfl (by omega) dL_law_699 dL_law_700 dL_law_701 dL_law_702 dL_law_703 ?_
  refine l_callR X (r := (sq_kept S.1 (dn (xs (i + 1))) (xs (i + 2)))) (v1 := v) [.int (xs (i + 1)), .int (xs (i + 2))] (c_X8_kept I.2.1 mR) (cwV 2 hts gL_law_X8_kept rfl rfl rfl (by decide +kernel) ⟨(Nat.le_of_ble_eq_true rfl), (Nat.le_of_ble_eq_true rfl)⟩) rfl rfl (Nat.le_of_ble_eq_true rfl) dL_law_704 ?_
  exact l_icmp_eq X (tgt := 886) dL_law_707 (by decide) (K S w v hC hR)
theorem arm_read (X : LX p s m args c D cI cL cS aC aR b L xs) {i : Nat} (hi : i + 4 ≤ L) (K : LK p l e s m args below meth c Q D cI cL cS aC aR b i 886) : LK p l e s m args below meth c Q D cI cL cS aC aR b i 712 := by
  intro S w v hC hR
  have hts := X.2.2.2.2.1
  have I := X.2.2.2.2.2.2.2.1
  obtain ⟨w1, mC, hC1⟩ := f_read hC (xs (i + 1)) (xs (i + 2)) (xs (i + 3))
  obtain ⟨v1, mR, hR1⟩ := g_read hR (xs (i + 1)) (xs (i + 2)) (xs (i + 3))
  refine l_aload_n X 1 dL_law_712 rfl rfl ?_
  refine l_arg X (j := 1) rfl (by omega) dL_law_713 dL_law_714 dL_law_715 dL_law_716 dL_law_717 ?_
  refine l_arg X (j := 2) rfl (by omega) dL_law_718 dL_law_719 dL_law_720 dL_law_721 dL_law_722 ?_
  refine l_arg X (j := 3) rfl (by omega) dL_law_723 dL_law_724 dL_law_725 dL_law_726 dL_law_727 ?_
  refine l_callC X (r := (o_read S (xs (i + 1)) (xs (i + 2)) (xs (i + 3))).1) (w1 := w1) [.int (xs (i + 1)), .int (xs (i + 2)), .int (xs (i + 3))] (c_X7_read I.1 mC) (cwV 3 hts gL_law_X7_read rfl rfl rfl (by decide +kernel) ⟨(Nat.le_of_ble_eq_true rfl), (Nat.le_of_ble_eq_true rfl)⟩) rfl rfl (Nat.le_of_ble_eq_true rfl) dL_law_728 ?_
  refine l_aload_n X 2 dL_law_731 rfl rfl ?_
  refine l_arg X (j := 1) rfl (by omega) dL_law_732 dL_law_733 dL_law_734 dL_law_735 dL_law_736 ?_
  refine l_arg X (j := 2) rfl (by omega) dL_law_737 dL_law_738 dL_law_739 dL_law_740 dL_law_741 ?_
  refine l_arg X (j := 3) rfl (by omega) dL_law_742 dL_law_743 dL_law_744 dL_law_745 dL_law_746 ?_
  refine l_callR X (r := (o_read S (xs (i + 1)) (xs (i + 2)) (xs (i + 3))).1) (v1 := v1) [.int (xs (i + 1)), .int (xs (i + 2)), .int (xs (i + 3))] (c_X8_read I.2.1 mR) (cwV 3 hts gL_law_X8_read rfl rfl rfl (by decide +kernel) ⟨(Nat.le_of_ble_eq_true rfl), (Nat.le_of_ble_eq_true rfl)⟩) rfl rfl (Nat.le_of_ble_eq_true rfl) dL_law_747 ?_
  exact l_icmp_eq X (tgt := 886) dL_law_750 (by decide) (K (o_read S (xs (i + 1)) (xs (i + 2)) (xs (i + 3))).2 w1 v1 hC1 hR1)
theorem arm_ask (X : LX p s m args c D cI cL cS aC aR b L xs) {i : Nat} (hi : i + 4 ≤ L) (K : LK p l e s m args below meth c Q D cI cL cS aC aR b i 886) : LK p l e s m args below meth c Q D cI cL cS aC aR b i 755 := by
  intro S w v hC hR
  have hts := X.2.2.2.2.1
  have I := X.2.2.2.2.2.2.2.1
  obtain ⟨w1, mC, hC1⟩ := f_ask hC (xs (i + 1))
  obtain ⟨v1, mR, hR1⟩ := g_ask hR (xs (i + 1))
  refine l_aload_n X 1 dL_law_755 rfl rfl ?_
  refine l_arg X (j := 1) rfl (by omega) dL_law_756 dL_law_757 dL_law_758 dL_law_759 dL_law_760 ?_
  refine l_callC X (r := (o_ask S (xs (i + 1))).1) (w1 := w1) [.int (xs (i + 1))] (c_X7_ask I.1 mC) (cwV 1 hts gL_law_X7_ask rfl rfl rfl (by decide +kernel) ⟨(Nat.le_of_ble_eq_true rfl), (Nat.le_of_ble_eq_true rfl)⟩) rfl rfl (Nat.le_of_ble_eq_true rfl) dL_law_761 ?_
  refine l_aload_n X 2 dL_law_764 rfl rfl ?_
  refine l_arg X (j := 1) rfl (by omega) dL_law_765 dL_law_766 dL_law_767 dL_law_768 dL_law_769 ?_
  refine l_callR X (r := (o_ask S (xs (i + 1))).1) (v1 := v1) [.int (xs (i + 1))] (c_X8_ask I.2.1 mR) (cwV 1 hts gL_law_X8_ask rfl rfl rfl (by decide +kernel) ⟨(Nat.le_of_ble_eq_true rfl), (Nat.le_of_ble_eq_true rfl)⟩) rfl rfl (Nat.le_of_ble_eq_true rfl) dL_law_770 ?_
  exact l_icmp_eq X (tgt := 886) dL_law_773 (by decide) (K (o_ask S (xs (i + 1))).2 w1 v1 hC1 hR1)
theorem arm_covers (X : LX p s m args c D cI cL cS aC aR b L xs) {i : Nat} (hi : i + 4 ≤ L) (K : LK p l e s m args below meth c Q D cI cL cS aC aR b i 886) : LK p l e s m args below meth c Q D cI cL cS aC aR b i 778 := by
  intro S w v hC hR
  have hts := X.2.2.2.2.1
  have I := X.2.2.2.2.2.2.2.1
  have mC := q_covers hC.1 hC.2.1.1 (xs (i + 1)) (xs (i + 2))
  have mR := g_covers hR (xs (i + 1)) (xs (i + 2))
  refine l_aload_n X 1 dL_law_778 rfl rfl ?_
  refine l_arg X (j := 1) rfl (by omega) dL_law_779 dL_law_780 dL_law_781 dL_law_782 dL_law_783 ?_
  refine l_arg X (j := 2) rfl (by omega) dL_law_784 dL_law_785 dL_law_786 dL_law_787 dL_law_788 ?_
  refine l_callC X (r := (sq_covers S.1 (dn (xs (i + 1))) (dn (xs (i + 2))))) (w1 := w) [.int (xs (i + 1)), .int (xs (i + 2))] (c_X7_covers I.1 mC) (cwV 2 hts gL_law_X7_covers rfl rfl rfl (by decide +kernel) ⟨(Nat.le_of_ble_eq_true rfl), (Nat.le_of_ble_eq_true rfl)⟩) rfl rfl (Nat.le_of_ble_eq_true rfl) dL_law_789 ?_
  refine l_aload_n X 2 dL_law_792 rfl rfl ?_
  refine l_arg X (j := 1) rfl (by omega) dL_law_793 dL_law_794 dL_law_795 dL_law_796 dL_law_797 ?_
  refine l_arg X (j := 2) rfl (by omega) dL_law_798 dL_law_799 dL_law_800 dL_law_801 dL_law_802 ?_
  refine l_callR X (r := (sq_covers S.1 (dn (xs (i + 1))) (dn (xs (i + 2))))) (v1 := v) [.int (xs (i + 1)), .int (xs (i + 2))] (c_X8_covers I.2.1 mR) (cwV 2 hts gL_law_X8_covers rfl rfl rfl (by decide +kernel) ⟨(Nat.le_of_ble_eq_true rfl), (Nat.le_of_ble_eq_true rfl)⟩) rfl rfl (Nat.le_of_ble_eq_true rfl) dL_law_803 ?_
  exact l_icmp_eq X (tgt := 886) dL_law_806 (by decide) (K S w v hC hR)
theorem arm_upToDate (X : LX p s m args c D cI cL cS aC aR b L xs) {i : Nat} (hi : i + 4 ≤ L) (K : LK p l e s m args below meth c Q D cI cL cS aC aR b i 886) : LK p l e s m args below meth c Q D cI cL cS aC aR b i 811 := by
  intro S w v hC hR
  have hts := X.2.2.2.2.1
  have I := X.2.2.2.2.2.2.2.1
  obtain ⟨w1, mC, hC1⟩ := f_utd hC
  obtain ⟨v1, mR, hR1⟩ := g_utd hR
  refine l_aload_n X 1 dL_law_811 rfl rfl ?_
  refine l_callC X (r := (nI (utd S.1))) (w1 := w1) [] (c_X7_upToDate I.1 mC) (cwV 0 hts gL_law_X7_upToDate rfl rfl rfl (by decide +kernel) ⟨(Nat.le_of_ble_eq_true rfl), (Nat.le_of_ble_eq_true rfl)⟩) rfl rfl (Nat.le_of_ble_eq_true rfl) dL_law_812 ?_
  refine l_aload_n X 2 dL_law_815 rfl rfl ?_
  refine l_callR X (r := (nI (utd S.1))) (v1 := v1) [] (c_X8_upToDate I.2.1 mR) (cwV 0 hts gL_law_X8_upToDate rfl rfl rfl (by decide +kernel) ⟨(Nat.le_of_ble_eq_true rfl), (Nat.le_of_ble_eq_true rfl)⟩) rfl rfl (Nat.le_of_ble_eq_true rfl) dL_law_816 ?_
  exact l_icmp_eq X (tgt := 886) dL_law_819 (by decide) (K S w1 v1 hC1 hR1)
theorem arm_appendCharacter (X : LX p s m args c D cI cL cS aC aR b L xs) {i : Nat} (hi : i + 4 ≤ L) (K : LK p l e s m args below meth c Q D cI cL cS aC aR b i 886) : LK p l e s m args below meth c Q D cI cL cS aC aR b i 824 := by
  intro S w v hC hR
  have hts := X.2.2.2.2.1
  have I := X.2.2.2.2.2.2.2.1
  obtain ⟨w1, mC, hC1⟩ := f_app hC (xs (i + 1))
  obtain ⟨v1, mR, hR1⟩ := g_app hR (xs (i + 1))
  refine l_aload_n X 1 dL_law_824 rfl rfl ?_
  refine l_arg X (j := 1) rfl (by omega) dL_law_825 dL_law_826 dL_law_827 dL_law_828 dL_law_829 ?_
  refine l_callC X (r := (o_app S (xs (i + 1))).1) (w1 := w1) [.int (xs (i + 1))] (c_X7_appendCharacter I.1 mC) (cwV 1 hts gL_law_X7_appendCharacter rfl rfl rfl (by decide +kernel) ⟨(Nat.le_of_ble_eq_true rfl), (Nat.le_of_ble_eq_true rfl)⟩) rfl rfl (Nat.le_of_ble_eq_true rfl) dL_law_830 ?_
  refine l_aload_n X 2 dL_law_833 rfl rfl ?_
  refine l_arg X (j := 1) rfl (by omega) dL_law_834 dL_law_835 dL_law_836 dL_law_837 dL_law_838 ?_
  refine l_callR X (r := (o_app S (xs (i + 1))).1) (v1 := v1) [.int (xs (i + 1))] (c_X8_appendCharacter I.2.1 mR) (cwV 1 hts gL_law_X8_appendCharacter rfl rfl rfl (by decide +kernel) ⟨(Nat.le_of_ble_eq_true rfl), (Nat.le_of_ble_eq_true rfl)⟩) rfl rfl (Nat.le_of_ble_eq_true rfl) dL_law_839 ?_
  exact l_icmp_eq X (tgt := 886) dL_law_842 (by decide) (K (o_app S (xs (i + 1))).2 w1 v1 hC1 hR1)
theorem arm_clearText (X : LX p s m args c D cI cL cS aC aR b L xs) {i : Nat} (hi : i + 4 ≤ L) (K : LK p l e s m args below meth c Q D cI cL cS aC aR b i 886) : LK p l e s m args below meth c Q D cI cL cS aC aR b i 847 := by
  intro S w v hC hR
  have hts := X.2.2.2.2.1
  have I := X.2.2.2.2.2.2.2.1
  obtain ⟨w1, mC, hC1⟩ := f_clear hC
  obtain ⟨v1, mR, hR1⟩ := g_clear hR
  refine l_aload_n X 1 dL_law_847 rfl rfl ?_
  refine l_callC X (r := (o_clear S).1) (w1 := w1) [] (c_X7_clearText I.1 mC) (cwV 0 hts gL_law_X7_clearText rfl rfl rfl (by decide +kernel) ⟨(Nat.le_of_ble_eq_true rfl), (Nat.le_of_ble_eq_true rfl)⟩) rfl rfl (Nat.le_of_ble_eq_true rfl) dL_law_848 ?_
  refine l_aload_n X 2 dL_law_851 rfl rfl ?_
  refine l_callR X (r := (o_clear S).1) (v1 := v1) [] (c_X8_clearText I.2.1 mR) (cwV 0 hts gL_law_X8_clearText rfl rfl rfl (by decide +kernel) ⟨(Nat.le_of_ble_eq_true rfl), (Nat.le_of_ble_eq_true rfl)⟩) rfl rfl (Nat.le_of_ble_eq_true rfl) dL_law_852 ?_
  exact l_icmp_eq X (tgt := 886) dL_law_855 (by decide) (K (o_clear S).2 w1 v1 hC1 hR1)
theorem arm_runScript (X : LX p s m args c D cI cL cS aC aR b L xs) {i : Nat} (hi : i + 4 ≤ L) (K : LK p l e s m args below meth c Q D cI cL cS aC aR b i 886) : LK p l e s m args below meth c Q D cI cL cS aC aR b i 860 := by
  intro S w v hC hR
  have hts := X.2.2.2.2.1
  have I := X.2.2.2.2.2.2.2.1
  obtain ⟨w1, mC, hC1⟩ := f_run hC
  obtain ⟨v1, mR, hR1⟩ := g_run hR
  refine l_aload_n X 1 dL_law_860 rfl rfl ?_
  refine l_callC X (r := (o_run S).1) (w1 := w1) [] (c_X7_runScript I.1 mC) (cwV 0 hts gL_law_X7_runScript rfl rfl rfl (by decide +kernel) ⟨(Nat.le_of_ble_eq_true rfl), (Nat.le_of_ble_eq_true rfl)⟩) rfl rfl (Nat.le_of_ble_eq_true rfl) dL_law_861 ?_
  refine l_aload_n X 2 dL_law_864 rfl rfl ?_
  refine l_callR X (r := (o_run S).1) (v1 := v1) [] (c_X8_runScript I.2.1 mR) (cwV 0 hts gL_law_X8_runScript rfl rfl rfl (by decide +kernel) ⟨(Nat.le_of_ble_eq_true rfl), (Nat.le_of_ble_eq_true rfl)⟩) rfl rfl (Nat.le_of_ble_eq_true rfl) dL_law_865 ?_
  exact l_icmp_eq X (tgt := 886) dL_law_868 (by decide) (K (o_run S).2 w1 v1 hC1 hR1)
theorem arm_undo (X : LX p s m args c D cI cL cS aC aR b L xs) {i : Nat} (hi : i + 4 ≤ L) (K : LK p l e s m args below meth c Q D cI cL cS aC aR b i 886) : LK p l e s m args below meth c Q D cI cL cS aC aR b i 873 := by
  intro S w v hC hR
  have hts := X.2.2.2.2.1
  have I := X.2.2.2.2.2.2.2.1
  obtain ⟨w1, mC, hC1⟩ := f_undo hC
  obtain ⟨v1, mR, hR1⟩ := g_undo hR
  refine l_aload_n X 1 dL_law_873 rfl rfl ?_
  refine l_callC X (r := (o_undo S).1) (w1 := w1) [] (c_X7_undo I.1 mC) (cwV 0 hts gL_law_X7_undo rfl rfl rfl (by decide +kernel) ⟨(Nat.le_of_ble_eq_true rfl), (Nat.le_of_ble_eq_true rfl)⟩) rfl rfl (Nat.le_of_ble_eq_true rfl) dL_law_874 ?_
  refine l_aload_n X 2 dL_law_877 rfl rfl ?_
  refine l_callR X (r := (o_undo S).1) (v1 := v1) [] (c_X8_undo I.2.1 mR) (cwV 0 hts gL_law_X8_undo rfl rfl rfl (by decide +kernel) ⟨(Nat.le_of_ble_eq_true rfl), (Nat.le_of_ble_eq_true rfl)⟩) rfl rfl (Nat.le_of_ble_eq_true rfl) dL_law_878 ?_
  exact l_icmp_eq X (tgt := 886) dL_law_881 (by decide) (K (o_undo S).2 w1 v1 hC1 hR1)
end ARMS
