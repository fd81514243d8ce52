/-! ===== the law's cell: a read of the script; and the law's own end ===== -/
section LCELL
variable {p : Program} {l : Launch} {e : Env} {R : Room} {s : State} {m : MethodId} {args : Array Value} {below : List Frame} {meth : Method} {c : Code} {Q : State → Prop} {nL : Nat} {D : va_G} {cI cL cS : ClassId} {tys : List (ClassId × FieldType)} {N : Nat} {ad : Nat → Nat} {cell : Nat → (Nat → Int32) → va_E} {w : Wd} {pc : Nat} {lv : List (Nat × Value)} {st : List Value} {cc : ByteArray} {own : String} {Ts : List Cond} {b L : Nat} {xs : Nat → Int32}
theorem j_slen (X : CX p R s m args c cc nL own Ts D tys N ad) (hX : va_X b L xs s s.heap) (hb : b < s.heap.size) (hA : ¬ AW N ad b) (d : decode cc pc = .ok (.arraylength, 1)) (kk : WJ p l e R s m args below meth c Q nL D N ad cell w (pc + 1) lv (.int (nI L) :: st)) : WJ p l e R s m args below meth c Q nL D N ad cell w pc lv (.ref b :: st) := fun H locs ls hP hS hl => va_slen X.1 X.2.1 hX hb hA hS d (kk H locs ls hP hS hl)
theorem j_sld (X : CX p R s m args c cc nL own Ts D tys N ad) (hX : va_X b L xs s s.heap) (hb : b < s.heap.size) (hA : ¬ AW N ad b) {i : Int32} (hi : ib i L) (d : decode cc pc = .ok (.iaload, 1)) (kk : WJ p l e R s m args below meth c Q nL D N ad cell w (pc + 1) lv (.int (xs i.toNatClampNeg) :: st)) : WJ p l e R s m args below meth c Q nL D N ad cell w pc lv (.int i :: .ref b :: st) := fun H locs ls hP hS hl => va_sld X.1 X.2.1 hX hb hA hS hi d (kk H locs ls hP hS hl)
theorem c_L_cellX {x1 out : Int32} (hf : m_L_cell L 0 x1 (fun _ => xs) = some out) : Met l yL_cell wsL_cell rmL_cell (va_Pc [.ref b, .int x1] (fun U => va_X b L xs U U.heap ∧ b < U.heap.size ∧ PW D (tC cI cL cS) 0 ad cell w U)) (QWi D 0 ad cell out w) 0 0 (AW 0 ad) := by
  refine Met.ofW (cc := cL_cell) (maxL := 2) (ret := some .int) (by decide) rfl ?_
  intro p e s m args below meth c s₁ B hml hv
  obtain ⟨rfl, hX, hb, hP, hK, hN⟩ := hv
  have hts := atoms_spec (ws := wsL_cell) B.pre
  have hown : s.vm.findClass RL = some m.cls := findClass_of_methodNamed B.named
  have hl := lv_entry [.ref b, .int x1] (n := 2) (Nat.le_of_ble_eq_true rfl)
  rw [lg_entry_eq]
  have hA : ¬ AW 0 ad b := fun ⟨k, hk, _⟩ => absurd hk (Nat.not_lt_zero k)
  have X : CX p rmL_cell s m ([.ref b, .int x1] : List Value).toArray c cL_cell 2 RL wsL_cell D (tC cI cL cS) 0 ad := ⟨B.exec, B.bytes, hml, hown, hts, hK, hN, fun i _ hi => absurd hi (Nat.not_lt_zero i)⟩
  have Y : RX meth (some .int) := ⟨B.returns, B.notSynchronized⟩
  have go : WJ p l e rmL_cell s m ([.ref b, .int x1] : List Value).toArray below meth c (MQ below (QWi D 0 ad cell out w) ([.ref b, .int x1] : List Value).toArray s 0 0 (AW 0 ad)) 2 D 0 ad cell w 0 [(0, .ref b), (1, .int x1)] [] := by
    unfold m_L_cell at hf
    refine j_iload_n X 1 dL_cell_0 rfl rfl ?_
    refine j_aload_n X 0 dL_cell_1 rfl rfl ?_
    refine j_slen X hX hb hA dL_cell_2 ?_
    refine j_icmp_ge (tgt := 12) X dL_cell_3 (by decide) (fun c => ?_) (fun c => ?_)
    · replace hf := f_t c hf
      refine j_ldc X (v := (40503 : Int32)) (List.mem_of_getElem? (i := 1) rfl) dL_cell_12 ?_
      refine j_iload_n X 1 dL_cell_14 rfl rfl ?_
      refine j_iconst X (v := (nI 3)) (by decide) dL_cell_15 ?_
      refine j_iadd X dL_cell_16 ?_
      refine j_imul X dL_cell_17 ?_
      exact j_iret X Y (f_s hf) rfl dL_cell_18
    replace hf := f_f c hf
    refine j_aload_n X 0 dL_cell_6 rfl rfl ?_
    refine j_iload_n X 1 dL_cell_7 rfl rfl ?_
    obtain ⟨hi1, hf⟩ := f_c hf
    refine j_sld X hX hb hA hi1 dL_cell_8 ?_
    refine j_goto (tgt := 18) X dL_cell_9 (by decide) ?_
    exact j_iret X Y (f_s hf) rfl dL_cell_18
  exact go s.heap [] _ hP va_S.rf ⟨hl, fun q hq => by
    rcases List.mem_cons.mp hq with rfl | hq
    · rfl
    · rcases List.mem_cons.mp hq with rfl | hq
      · rfl
      · cases hq⟩
end LCELL
section LCALLX
variable {p : Program} {l : Launch} {e : Env} {s : State} {m : MethodId} {below : List Frame} {meth : Method} {c : Code} {D : va_G} {cI cL cS : ClassId} {aC ad0 ad : Nat → Nat} {N0 N : Nat} {len0 len : Nat → Nat} {cells slots : Nat} {w : Wd} {pc : Nat} {lv : List (Nat × Value)} {st : List Value} {b L : Nat} {xs : Nat → Int32}
/-- the law's own start: nothing but the script -/
def LX0 (s : State) (b L : Nat) (xs : Nat → Int32) (N0 : Nat) : Prop := N0 = 0 ∧ va_X b L xs s s.heap ∧ b < s.heap.size
theorem v_callX {R : Room} {args : Array Value} {Q : State → Prop} {nL : Nat} {cc : ByteArray} {own : String} {Ts : List Cond} (X : VX p s m args c cc nL own Ts D cI cL cS aC N0 ad0 len0 N ad len) (hx : LX0 s b L xs N0) {index : Nat} {x1 r : Int32} {st0 : List Value} (As : List Value) (hf : m_L_cell L 0 x1 (fun _ => xs) = some r) (cw : CallB R s args own index yL_cell cL_cell 2 (some .int) wsL_cell rmL_cell 0 0 2 ∧ (Cond.static yL_cell).before args s = true) (hAs : As = [.ref b, .int x1]) (hst : st0 = As.reverse ++ st) (hst8 : (st.map fun v => v.category).sum ≤ 8) (hB : cells + 0 ≤ R.cells ∧ slots + 0 ≤ R.slots) (d : decode cc pc = .ok (.invokestatic index, 3)) (kk : VJ p l e R s m args below meth c Q nL D cI cL cS aC N0 ad0 N ad len cells slots w (pc + 3) lv (.int r :: st)) : VJ p l e R s m args below meth c Q nL D cI cL cS aC N0 ad0 N ad len cells slots w pc lv st0 := by
  subst hAs
  subst hst
  obtain ⟨rfl, hX, hb⟩ := hx
  intro H locs ls hP hS hl
  have hnA : ¬ AF 0 ad0 s.heap.size b := by
    rintro (⟨k, hk, -⟩ | h)
    · exact absurd hk (Nat.not_lt_zero k)
    · omega
  have hXH : va_X b L xs s H := hX.kept (hS.2.1 b hb hnA)
  have hbH : b < H.size := Nat.lt_of_lt_of_le hb hS.1
  have hM := c_L_cellX (l := l) (D := D) (cI := cI) (cL := cL) (cS := cS) (ad := ad) (cell := cellL cI cL cS aC len) (w := w) (b := b) hf
  refine va_calli (va_runS (As := [.ref b, .int x1]) (rest := st) ⟨X.1, X.2.1, X.2.2.1, X.2.2.2.1, X.2.2.2.2.1⟩ hM cw ⟨fun a U g mk q => ⟨q.1, q.2.1, q.2.2.1, (va_blind (av := [.ref b, .int x1]) a U g mk ⟨q.1, q.2.2.2⟩).2⟩, fun U hU hW => ⟨rfl, by rw [hU]; exact va_X.moved hW.alike hXH, by rw [hU]; exact hbH, fun k q hk => absurd (WW_of hk).1 (Nat.not_lt_zero k), va_K.moved hW.alike X.2.2.2.2.2.1, NW.warm hW X.2.2.2.2.2.2.1⟩⟩ rfl rfl hl.1.1 rfl (lv_room hst8) d hB) hS (fun q _ h => False.elim (by obtain ⟨k, hk, -⟩ := h; exact absurd hk (Nat.not_lt_zero k))) (fun q h => False.elim (by obtain ⟨k, hk, -⟩ := h; exact absurd hk (Nat.not_lt_zero k))) (fun r2 u t H1 locs1 ht hvm hw hB hz hk hS1 => ?_)
  subst hw
  refine kk H1 locs1 ls (fun k q hq => ?_) hS1 hl
  have ho := hP k q hq
  exact ho.kept (hk _ ho.lt (fun ⟨j, hj, _⟩ => absurd hj (Nat.not_lt_zero j)))
theorem v_lawret (X : VX p s m #[Value.ref b] c cL_law 13 RL wsL_law D cI cL cS aC N0 ad0 len0 N ad len) (Y : RX meth (some .boolean)) (hx : LX0 s b L xs N0) {v r : Int32} (hv : v &&& 1 = r) (hr : r = nI 1) (h1 : cells ≤ 100000) (h2 : slots ≤ 1000000) (d : decode cL_law pc = .ok (.ireturn, 1)) : VJ p l e room_1 s m #[Value.ref b] below meth c (lw_Z below #[Value.ref b] s) 13 D cI cL cS aC N0 ad0 N ad len cells slots w pc lv [.int v] := by
  obtain ⟨rfl, -, -⟩ := hx
  intro H locs ls hP hS hl
  refine W.widen (Nat.le_trans h1 room_c) (Nat.le_trans h2 room_s) ?_
  refine va_forget (fun q hq => ?_) ?_
  · rcases hS.2.2 q hq with ⟨k, hk, -⟩ | h
    · exact absurd hk (Nat.not_lt_zero k)
    · exact h
  · exact lw_retV (hv.trans hr) X.1 X.2.1 Y.1 Y.2 d
end LCALLX
/-! ===== a call over more than eight waiting words ===== -/
section CALLK
variable {p : Program} {l : Launch} {e : Env} {R : Room} {s : State} {m : MethodId} {args : Array Value} {below : List Frame} {meth : Method} {c : Code} {H : Heap} {locs : List Loc} {cells slots nL mc ms n index maxL : Nat} {y : MethodName} {bytes cc : ByteArray} {ret : Option FieldType} {ws : List Cond} {rm : Room} {Pc : Array Value → State → Prop} {Qc : Array Value → State → Outcome → State → Prop} {free : Addr → Prop} {Ts : List Cond} {own : String} {As rest : List Value} {g : JFrame}
theorem va_runSk (S : CallFix p m c cc nL s args Ts own) (hM : Met l y ws rm Pc Qc mc ms free) (cw : CallB R s args own index y bytes maxL ret ws rm mc ms n ∧ (Cond.static y).before args s = true) (hR : 16 + (maxL + 11) + rm.locals ≤ R.locals) (hp : PreS s H Pc As)
    (hg : g.method = m) (hn : As.length = n) (hsize : g.locals.size = nL) (hstack : g.stack = As.reverse ++ rest) (hW : 2 * g.monitorRoom + (rest.map fun v => v.category).sum ≤ 16) (hdg : decode cc g.pc = .ok (.invokestatic index, 3)) (hf : cells + mc ≤ R.cells ∧ slots + ms ≤ R.slots) :
    va_Run p l e R s m args below meth c H locs cells slots mc ms g rest (Qc As.toArray) (free) := by
  have hK : Back l R p e below s args y 3 16 (PreOf R mc ms Pc) (PostOf Qc mc ms free) := by
    obtain ⟨hrc, hrs, hfr, -, hws, hcw, -, hini, -⟩ := cw.1
    exact back_of (bytes := bytes) (maxL := maxL) (ret := ret) hM hp.1 hrc hrs hfr hR hws hcw (fun a' U hW => word_at hW (Or.inl (by first | rfl | simp [Cond.onTables, Cond.keeps, Cond.steady])) hini)
  obtain ⟨⟨-, -, -, -, -, -, hcode, hini, hy, hlen, hl⟩, hstt⟩ := cw
  obtain ⟨hx, hb, hml, ho, -⟩ := S
  intro T hT X
  obtain ⟨v, vm₁, ⟨U', l2, c2, s2⟩, hW₁, X', ⟨g', mk, t, L, e1, e2, hq, h1, hL, h2, h3⟩, st⟩ := callS X hx (bytes := bytes) (maxL := maxL) (ret := ret) ho hl hstt hini hcode hy hK hg (hsize.trans hml.symm) (argsL := As) (rest := rest) (fun sig h => hn.trans (hlen sig h)) hstack hW (by rw [hb]; exact hdg)
    (fun vm₁ hW₁ => ⟨hf.1, hf.2, hp.2 (T.setVm vm₁) hT hW₁⟩)
  dsimp only [Pt.U, Pt.locs, Pt.cells, Pt.slots] at X' e1 e2 h1 h2 h3 st
  subst h1; subst h2; subst h3
  exact ⟨v, (T.setVm vm₁).calling g' mk As.toArray, t, U', L, hT, X', hL, e1, e2, hq, st⟩
end CALLK
section CALLK2
variable {p : Program} {l : Launch} {e : Env} {R : Room} {s : State} {m : MethodId} {args : Array Value} {below : List Frame} {meth : Method} {c : Code} {Q : State → Prop} {nL : Nat} {D : va_G} {cI cL cS : ClassId} {aC ad0 ad : Nat → Nat} {N0 N : Nat} {len0 len : Nat → Nat} {cells slots : Nat} {w : Wd} {pc : Nat} {lv : List (Nat × Value)} {st : List Value} {cc : ByteArray} {own : String} {Ts : List Cond}
theorem v_callSiK (X : VX p s m args c cc nL own Ts D cI cL cS aC N0 ad0 len0 N ad len) {y : MethodName} {bytes : ByteArray} {maxL n index : Nat} {ret : Option FieldType} {ws : List Cond} {rm : Room} {w1 : Wd} {st0 : List Value} {r : Int32} (As : List Value) (hM : Met l y ws rm (va_Pc As (PW D (tC cI cL cS) N ad (cellL cI cL cS aC len) w)) (QWi D N ad (cellL cI cL cS aC len) r w1) 0 0 (AW N ad)) (cw : CallB R s args own index y bytes maxL ret ws rm 0 0 n ∧ (Cond.static y).before args s = true) (hR : 16 + (maxL + 11) + rm.locals ≤ R.locals) (hst : st0 = As.reverse ++ st) (hn : As.length = n) (hst8 : (st.map fun v => v.category).sum ≤ 16) (hB : cells + 0 ≤ R.cells ∧ slots + 0 ≤ R.slots) (d : decode cc pc = .ok (.invokestatic index, 3)) (kk : VJ p l e R s m args below meth c Q nL D cI cL cS aC N0 ad0 N ad len cells slots w1 (pc + 3) lv (.int r :: st)) : VJ p l e R s m args below meth c Q nL D cI cL cS aC N0 ad0 N ad len cells slots w pc lv st0 := by
  subst hst
  intro H locs ls hP hS hl
  have hst16 : 2 * (F0 m pc ls (As.reverse ++ st)).monitorRoom + (st.map fun v => v.category).sum ≤ 16 := by
    show 2 * 0 + _ ≤ 16
    omega
  refine va_calli (va_runSk (As := As) (rest := st) ⟨X.1, X.2.1, X.2.2.1, X.2.2.2.1, X.2.2.2.2.1⟩ hM cw hR ⟨va_blind, fun U hU hW => ⟨rfl, by show va_P _ _ _ U.heap; rw [hU]; exact hP, va_K.moved hW.alike X.2.2.2.2.2.1, NW.warm hW X.2.2.2.2.2.2.1⟩⟩ rfl hn hl.1.1 rfl hst16 d hB) hS (fun q _ h => X.aw q h) X.aw (fun r2 u t H1 locs1 ht hvm hw hB hz hk hS1 => ?_)
  subst hw
  rw [ht] at hB
  exact kk H1 locs1 ls hB hS1 hl
end CALLK2
