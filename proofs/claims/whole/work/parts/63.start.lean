/-! THE CLAIM OUT OF ONE WALK OF THE LAW'S BODY. Your part is whole_start (and what it stands on); all else here is the same for every law, but numbers. -/
def R_law : String := "ProxyVersionsLaw"
def lw_P (b : Addr) (xs : List Int32) (args : Array Value) (s : State) : Prop := args = #[.ref b] ∧ s.IntsAt b xs ∧ xs.length ≤ 2048 ∧ (Jvm.Cond.and given_1 narrow_1).before args s = true
def lw_Q (_ : Array Value) (s : State) (o : Outcome) (t : State) : Prop := o = .returned (some (.int 1)) ∧ Framed s o t [] room_1.cells room_1.slots
def lw_Z (below : List Frame) (a : Array Value) (s : State) : State → Prop := fun t => ∃ o, t.status = .running ∧ Ended t below o ∧ lw_Q a s o t
/-- the law's own end, with 1 on the stack, nothing written that was there before, its room as the claim has it -/
theorem lw_ret {p : Program} {l : Launch} {e : Env} {s : State} {m : MethodId} {below : List Frame} {meth : Method} {c : Code} {b : Nat} (hx : p.tables.exec = Jvm.exec) (hb : c.code = code) (hr : meth.sig.returnType = ret) (hlocks : meth.locks = false) {pc : Nat} {H : Heap} {ls : Array Slot} (hdg : decode code pc = .ok (.ireturn, 1)) : W p l e room_1 s m #[Value.ref b] below meth c H [] room_1.cells room_1.slots (lw_Z below #[Value.ref b] s) (F0 m pc ls [.int 1]) := by
  intro T hT X
  obtain ⟨fs, hret, hrun, hended, hW, hframe⟩ := X.leave (v := some (.int 1)) (hlocks := hlocks) (fun h => by rw [hr] at h; cases h)
  have hmeth' : T.vm.method? m = some meth := X.method'
  refine ⟨T.setFrames fs, ?_, .returned (some (.int 1)), hrun, hended, rfl, ⟨_, rfl⟩, hW, hframe⟩
  jvm_step X.here [X.here.top, hx, hb, hdg, hmeth', hr, ret, narrow_b1]
  (try refine ⟨rfl, ?_⟩); (try refine ⟨rfl, ?_⟩)
  first | (intro acts; rw [hret _ acts rfl rfl rfl]) | rw [hret _ _ rfl rfl rfl]
  exact Steps.refl _
/-- what holds at the law's entry: the machine, the code, the tables' words (any of lw_tbl by 'hts w (by decide +kernel)'), the script of L ints xs at the cell b, what the Statement gives of the start (any of its parts by flat_of_before) -/
def lw_At (p : Program) (s : State) (m : MethodId) (meth : Method) (c : Code) (b L : Nat) (xs : Nat → Int32) : Prop :=
  p.tables.exec = Jvm.exec ∧ c.code = code ∧ meth.sig.returnType = ret ∧ c.maxLocals = 4 ∧ s.vm.findClass R_law = some m.cls ∧ (∀ w ∈ lw_tbl, w.before #[Value.ref b] s = true) ∧ va_X b L xs s s.heap ∧ b < s.heap.size ∧ meth.locks = false ∧ (Jvm.Cond.and given_1 narrow_1).before #[Value.ref b] s = true
-- ===== YOUR PART BEGINS =====
theorem lim4 {i L : Nat} (hi : i < 2 ^ 31 - 4) (hL : L ≤ 2048) (h : ¬ nI L - nI 4 < nI i) : i + 4 ≤ L := by
  by_cases c4 : 4 ≤ L
  · rw [z_sub c4, z_lt (by omega) (by omega)] at h
    omega
  · exfalso
    refine h ?_
    have h1 : nI L - nI 4 < 0 := by
      rcases (show L = 0 ∨ L = 1 ∨ L = 2 ∨ L = 3 by omega) with rfl | rfl | rfl | rfl <;> decide
    have h2 : (0 : Int32) ≤ nI i := by rw [z_0le (by omega)]; trivial
    exact Int32.lt_of_lt_of_le h1 h2
section LAW
variable {p : Program} {l : Launch} {e : Env} {s : State} {m : MethodId} {below : List Frame} {meth : Method} {c : Code} {D : va_G} {cI cL cS : ClassId} {aC aR : Nat → Nat} {b L : Nat} {xs : Nat → Int32}
theorem law_end (X : LX p s m #[Value.ref b] c D cI cL cS aC aR b L xs) (hr : meth.sig.returnType = ret) (hlocks : meth.locks = false) {w v : Wd} {lv : List (Nat × Value)} : LJ p l e s m #[Value.ref b] below meth c (lw_Z below #[Value.ref b] s) D cI cL cS aC aR w v 892 lv [] := by
  refine l_iconst X (x := 1) rfl dL_law_892 ?_
  intro H locs ls hP hR hS hl
  refine va_forget (fun q hq => hS.2.2 q hq) ?_
  exact lw_ret X.1 X.2.1 hr hlocks dL_law_893
theorem law_loop (X : LX p s m #[Value.ref b] c D cI cL cS aC aR b L xs) (hr : meth.sig.returnType = ret) (hlocks : meth.locks = false) : ∀ (k i : Nat), i ≤ L + 4 → L + 4 ≤ i + k → LK p l e s m #[Value.ref b] below meth c (lw_Z below #[Value.ref b] s) D cI cL cS aC aR b i 18 := by
  have hL : L ≤ 2048 := X.2.2.2.2.2.2.2.2.2.2
  intro k
  induction k with
  | zero =>
    intro i h1 h2 S w v hC hR
    refine l_iload_n X 3 dL_law_18 rfl rfl ?_
    refine l_aload_n X 0 dL_law_19 rfl rfl ?_
    refine l_slen X dL_law_20 ?_
    refine l_iconst X (x := nI 4) rfl dL_law_21 ?_
    refine l_isub X dL_law_22 ?_
    refine l_icmp_gt X (tgt := 892) dL_law_23 (by decide) (fun _ => law_end X hr hlocks) (fun h => ?_)
    have := lim4 (by omega) hL h
    omega
  | succ k ih =>
    intro i h1 h2 S w v hC hR
    refine l_iload_n X 3 dL_law_18 rfl rfl ?_
    refine l_aload_n X 0 dL_law_19 rfl rfl ?_
    refine l_slen X dL_law_20 ?_
    refine l_iconst X (x := nI 4) rfl dL_law_21 ?_
    refine l_isub X dL_law_22 ?_
    refine l_icmp_gt X (tgt := 892) dL_law_23 (by decide) (fun _ => law_end X hr hlocks) (fun h => ?_)
    have hi := lim4 (by omega) hL h
    have K : LK p l e s m #[Value.ref b] below meth c (lw_Z below #[Value.ref b] s) D cI cL cS aC aR b i 886 := by
      intro S w v hC hR
      refine l_inc X dL_law_886 ?_
      refine l_goto X (tgt := 18) dL_law_889 (by decide) ?_
      exact ih (i + 4) (by omega) (by omega) S w v hC hR
    refine l_at0 X (by omega) dL_law_26 dL_law_27 dL_law_28 ?_
    refine l_bipush X (x := nI 31) rfl dL_law_29 ?_
    refine l_iand X dL_law_31 ?_
    generalize xs i &&& nI 31 = x
    by_cases g : x.toInt < 0 ∨ 23 < x.toInt
    · exact l_tout X (tgt := 886) dL_law_32 g (by decide) (K S w v hC hR)
    · have g1 : ¬ x.toInt < 0 := fun q => g (Or.inl q)
      have g2 : ¬ 23 < x.toInt := fun q => g (Or.inr q)
      rcases (show x.toInt = 0 ∨ x.toInt = 1 ∨ x.toInt = 2 ∨ x.toInt = 3 ∨ x.toInt = 4 ∨ x.toInt = 5 ∨ x.toInt = 6 ∨ x.toInt = 7 ∨ x.toInt = 8 ∨ x.toInt = 9 ∨ x.toInt = 10 ∨ x.toInt = 11 ∨ x.toInt = 12 ∨ x.toInt = 13 ∨ x.toInt = 14 ∨ x.toInt = 15 ∨ x.toInt = 16 ∨ x.toInt = 17 ∨ x.toInt = 18 ∨ x.toInt = 19 ∨ x.toInt = 20 ∨ x.toInt = 21 ∨ x.toInt = 22 ∨ x.toInt = 23 by omega) with h | h | h | h | h | h | h | h | h | h | h | h | h | h | h | h | h | h | h | h | h | h | h | h
      · exact l_tin X (off := 112) (tgt := 144) dL_law_32 g1 g2 (by rw [h]; rfl) (by decide) (arm_addProxy X hi K S w v hC hR)
      · exact l_tin X (off := 135) (tgt := 167) dL_law_32 g1 g2 (by rw [h]; rfl) (by decide) (arm_setHome X hi K S w v hC hR)
      · exact l_tin X (off := 168) (tgt := 200) dL_law_32 g1 g2 (by rw [h]; rfl) (by decide) (arm_setLimits X hi K S w v hC hR)
      · exact l_tin X (off := 201) (tgt := 233) dL_law_32 g1 g2 (by rw [h]; rfl) (by decide) (arm_proxy X hi K S w v hC hR)
      · exact l_tin X (off := 234) (tgt := 266) dL_law_32 g1 g2 (by rw [h]; rfl) (by decide) (arm_count X hi K S w v hC hR)
      · exact l_tin X (off := 257) (tgt := 289) dL_law_32 g1 g2 (by rw [h]; rfl) (by decide) (arm_write X hi K S w v hC hR)
      · exact l_tin X (off := 280) (tgt := 312) dL_law_32 g1 g2 (by rw [h]; rfl) (by decide) (arm_cause X hi K S w v hC hR)
      · exact l_tin X (off := 323) (tgt := 355) dL_law_32 g1 g2 (by rw [h]; rfl) (by decide) (arm_deliver X hi K S w v hC hR)
      · exact l_tin X (off := 366) (tgt := 398) dL_law_32 g1 g2 (by rw [h]; rfl) (by decide) (arm_lose X hi K S w v hC hR)
      · exact l_tin X (off := 409) (tgt := 441) dL_law_32 g1 g2 (by rw [h]; rfl) (by decide) (arm_queued X hi K S w v hC hR)
      · exact l_tin X (off := 452) (tgt := 484) dL_law_32 g1 g2 (by rw [h]; rfl) (by decide) (arm_bound X hi K S w v hC hR)
      · exact l_tin X (off := 485) (tgt := 517) dL_law_32 g1 g2 (by rw [h]; rfl) (by decide) (arm_exception X hi K S w v hC hR)
      · exact l_tin X (off := 528) (tgt := 560) dL_law_32 g1 g2 (by rw [h]; rfl) (by decide) (arm_served X hi K S w v hC hR)
      · exact l_tin X (off := 561) (tgt := 593) dL_law_32 g1 g2 (by rw [h]; rfl) (by decide) (arm_status X hi K S w v hC hR)
      · exact l_tin X (off := 604) (tgt := 636) dL_law_32 g1 g2 (by rw [h]; rfl) (by decide) (arm_missing X hi K S w v hC hR)
      · exact l_tin X (off := 647) (tgt := 679) dL_law_32 g1 g2 (by rw [h]; rfl) (by decide) (arm_kept X hi K S w v hC hR)
      · exact l_tin X (off := 680) (tgt := 712) dL_law_32 g1 g2 (by rw [h]; rfl) (by decide) (arm_read X hi K S w v hC hR)
      · exact l_tin X (off := 723) (tgt := 755) dL_law_32 g1 g2 (by rw [h]; rfl) (by decide) (arm_ask X hi K S w v hC hR)
      · exact l_tin X (off := 746) (tgt := 778) dL_law_32 g1 g2 (by rw [h]; rfl) (by decide) (arm_covers X hi K S w v hC hR)
      · exact l_tin X (off := 779) (tgt := 811) dL_law_32 g1 g2 (by rw [h]; rfl) (by decide) (arm_upToDate X hi K S w v hC hR)
      · exact l_tin X (off := 792) (tgt := 824) dL_law_32 g1 g2 (by rw [h]; rfl) (by decide) (arm_appendCharacter X hi K S w v hC hR)
      · exact l_tin X (off := 815) (tgt := 847) dL_law_32 g1 g2 (by rw [h]; rfl) (by decide) (arm_clearText X hi K S w v hC hR)
      · exact l_tin X (off := 828) (tgt := 860) dL_law_32 g1 g2 (by rw [h]; rfl) (by decide) (arm_runScript X hi K S w v hC hR)
      · exact l_tin X (off := 841) (tgt := 873) dL_law_32 g1 g2 (by rw [h]; rfl) (by decide) (arm_undo X hi K S w v hC hR)
end LAW
set_option maxRecDepth 20000 in
theorem nF_in : ∀ t ∈ nF, Cond.fieldLinkNest t.1 t.2.1 t.2.2.1 t.2.2.2.1 t.2.2.2.2.1 t.2.2.2.2.2 ∈ lw_tbl := by decide +kernel
set_option maxRecDepth 20000 in
theorem nM_in : ∀ t ∈ nM, Cond.methodLinkNest t.1 t.2.1 t.2.2.1 t.2.2.2 ∈ lw_tbl := by decide +kernel
theorem nw_law {args : Array Value} {s : State} (hts : ∀ w ∈ lw_tbl, w.before args s = true) : NW s := ⟨fun t ht => va_Nw.of rfl (hts _ (nF_in t ht)), fun t ht => va_Nw.of rfl (hts _ (nM_in t ht))⟩
theorem kn_law {args : Array Value} {s : State} (hts : ∀ w ∈ lw_tbl, w.before args s = true) : ∃ D : va_G, ∀ (k : Nat) (q : vw_C), vwCl[k]? = some q → u_Kn s q.1 q.2.1 q.2.2 (D.1 k) (D.2 k) := by
  obtain ⟨c0, i0, h0⟩ := u_known (C := RX0) (T := TX0) (N := 3) (n := 3) hts wsX00_in (hts (.instantiable RX0 3) (by decide +kernel))
  obtain ⟨c1, i1, h1⟩ := u_known (C := RX1) (T := TX1) (N := 3) (n := 3) hts wsX10_in (hts (.instantiable RX1 3) (by decide +kernel))
  obtain ⟨c2, i2, h2⟩ := u_known (C := RX2) (T := TX2) (N := 2) (n := 2) hts wsX20_in (hts (.instantiable RX2 2) (by decide +kernel))
  obtain ⟨c3, i3, h3⟩ := u_known (C := RX3) (T := TX3) (N := 3) (n := 3) hts wsX30_in (hts (.instantiable RX3 3) (by decide +kernel))
  obtain ⟨c4, i4, h4⟩ := u_known (C := RX4) (T := TX4) (N := 3) (n := 3) hts wsX40_in (hts (.instantiable RX4 3) (by decide +kernel))
  obtain ⟨c5, i5, h5⟩ := u_known (C := RX5) (T := TX5) (N := 16) (n := 16) hts wsX50_in (hts (.instantiable RX5 16) (by decide +kernel))
  obtain ⟨c6, i6, h6⟩ := u_known (C := RX7) (T := TX7) (N := 6) (n := 6) hts wsX70_in (hts (.instantiable RX7 6) (by decide +kernel))
  obtain ⟨c7, i7, h7⟩ := u_known (C := RX8) (T := TX8) (N := 14) (n := 14) hts wsX80_in (hts (.instantiable RX8 14) (by decide +kernel))
  refine ⟨(fun k => if k = 0 then c0 else if k = 1 then c1 else if k = 2 then c2 else if k = 3 then c3 else if k = 4 then c4 else if k = 5 then c5 else if k = 6 then c6 else c7, fun k => if k = 0 then i0 else if k = 1 then i1 else if k = 2 then i2 else if k = 3 then i3 else if k = 4 then i4 else if k = 5 then i5 else if k = 6 then i6 else i7), ?_⟩
  intro k q hq
  match k, hq with
  | 0, hq => cases hq; exact h0
  | 1, hq => cases hq; exact h1
  | 2, hq => cases hq; exact h2
  | 3, hq => cases hq; exact h3
  | 4, hq => cases hq; exact h4
  | 5, hq => cases hq; exact h5
  | 6, hq => cases hq; exact h6
  | 7, hq => cases hq; exact h7
  | k + 8, hq => simp [vwCl] at hq
theorem ar_law {args : Array Value} {s : State} (hts : ∀ w ∈ lw_tbl, w.before args s = true) : ∃ cI cL cS : ClassId, ∀ (k : Nat) (q : ClassId × FieldType), (tC cI cL cS)[k]? = some q → ArrOfT s q.1 q.2 ∧ va_RA s q.1 q.2 := by
  obtain ⟨cI, kI, c1, hI1, hI2, hI3⟩ := Cond.arrayClass_spec (hts (.arrayClass .int) (by decide +kernel))
  obtain ⟨dL, cL, kL, hL1, hL2, hL3, hL4, hL5⟩ := Cond.arrayOver_spec (hts (.arrayOver (.object "ProxyVersions$Line")) (by decide +kernel))
  obtain ⟨dS, cS, kS, hS1, hS2, hS3, hS4, hS5⟩ := Cond.arrayOver_spec (hts (.arrayOver (.object "ProxyVersions$State")) (by decide +kernel))
  refine ⟨cI, cL, cS, ?_⟩
  intro k q hq
  match k, hq with
  | 0, hq => cases hq; exact ⟨fun n z => ⟨(fun k h => by cases h), kI, hI2, c1, hI3⟩, hI1⟩
  | 1, hq => cases hq; exact ⟨fun n z => ⟨(fun k h => by cases h), kL, hL3, dL, hL4⟩, ⟨kL, dL, hL3, hL4, hL1, hL5⟩⟩
  | 2, hq => cases hq; exact ⟨fun n z => ⟨(fun k h => by cases h), kS, hS3, dS, hS4⟩, ⟨kS, dS, hS3, hS4, hS1, hS5⟩⟩
  | k + 3, hq => simp at hq
set_option maxHeartbeats 4000000 in
/-- THE LAW, from its entry -/
theorem whole_start {p : Program} {e : Env} {s : State} {m : MethodId} {below : List Frame} {meth : Method} {c : Code} (l : Launch) (hflags : l.flags = flags0) {b L : Nat} {xs : Nat → Int32} (hL : L ≤ 2048) (C0 : lw_At p s m meth c b L xs) : W p l e room_1 s m #[Value.ref b] below meth c s.heap [] 0 0 (lw_Z below #[Value.ref b] s) (entryFrame m ([Value.ref b] : List Value).toArray 4) := by
  obtain ⟨hx, hb, hr, hml, hown, hts0, hX, hbl, hlocks, hgv⟩ := id C0
  have hts : ∀ w ∈ wsL_law, w.before #[Value.ref b] s = true := fun w h => hts0 w (wsL_law_in w h)
  obtain ⟨D, hKc⟩ := kn_law hts0
  obtain ⟨cI, cL, cS, hKa⟩ := ar_law hts0
  have hK : va_K D vwCl (tC cI cL cS) s := ⟨hKc, hKa⟩
  have hO : AO2 s := ⟨va_AO.of (hts0 (.arrayOver (.object "ProxyVersions$Line")) (by decide +kernel)), va_AO.of (hts0 (.arrayOver (.object "ProxyVersions$State")) (by decide +kernel)), nw_law hts0⟩
  have X : GX p s m #[Value.ref b] meth c cL_law 4 RL wsL_law D (tC cI cL cS) (fun q : Nat => s.heap.size ≤ q) := ⟨hx, hb, hml, hown, hts, hK, fun _ h => h, hlocks⟩
  have hl := lv_entry ([.ref b]) (n := 4) (Nat.le_of_ble_eq_true rfl)
  rw [lg_entry_eq]
  generalize (lg_sl ([.ref b]) ++ List.replicate (4 - (lg_sl ([.ref b])).length) Slot.unset).toArray = ls at hl ⊢
  have hl2 : lh ls 4 [(0, .ref b)] := ⟨hl, fun q hq => by cases hq with
    | head => rfl
    | tail _ h => cases h⟩
  have G : GJ p l e room_1 s m #[Value.ref b] below meth c (lw_Z below #[Value.ref b] s) 4 D (fun q : Nat => s.heap.size ≤ q) 0 (fun _ => 0) (fun _ => .inr (0, [])) 0 0 0 [(0, .ref b)] [] := by
    refine g_new X (C := RX7) (T := TX7) (N := 6) (ci := 6) (fs := [.null, .null, .null, .null, .null, .null]) (by decide +kernel) tyX7_ok (by decide +kernel) (by decide +kernel) (by decide +kernel) rfl (fun j hj => by rcases (show j = 0 ∨ j = 1 ∨ j = 2 ∨ j = 3 ∨ j = 4 ∨ j = 5 by omega) with rfl | rfl | rfl | rfl | rfl | rfl <;> rfl) (Nat.le_of_ble_eq_true rfl) (Nat.le_of_ble_eq_true rfl) dL_law_0 (fun q0 => ?_)
    refine g_dup X rfl dL_law_3 ?_
    refine g_callN X hO (n2 := 490) [] (k_PV_init l D cI cL cS) (fun u hu => hu.1) (up_s _ _ _) (up_s _ _ _) (cwI 0 hts gL_law_X7_init rfl rfl rfl (hts _ (by decide +kernel)) (hts _ (by decide +kernel)) (hts _ (by decide +kernel)) rfl (by decide +kernel) ⟨Nat.le_of_ble_eq_true rfl, Nat.le_of_ble_eq_true rfl⟩) rfl rfl (Nat.le_of_ble_eq_true rfl) (Nat.le_of_ble_eq_true rfl) (Nat.le_of_ble_eq_true rfl) dL_law_4 (fun ad1 E1 hk1 hu1 => ?_)
    obtain ⟨⟨_, adx, Ex⟩, po1, hq1, f1⟩ := hu1
    refine g_astore_n X (lv' := [(0, .ref b), (1, .ref q0)]) dL_law_7 rfl (by decide) rfl ?_
    refine g_new X (C := RX8) (T := TX8) (N := 14) (ci := 7) (fs := fsM) (by decide +kernel) tyX8_ok (by decide +kernel) (by decide +kernel) (by decide +kernel) rfl dfX8 (Nat.le_of_ble_eq_true rfl) (Nat.le_of_ble_eq_true rfl) dL_law_8 (fun q1 => ?_)
    refine g_dup X rfl dL_law_11 ?_
    refine g_callN X hO (n2 := 8) [] (k_Mo_init l D cI cL cS) (fun u hu => hu.1) (up_s _ _ _) (up_s _ _ _) (cwI 0 hts gL_law_X8_init rfl rfl rfl (hts _ (by decide +kernel)) (hts _ (by decide +kernel)) (hts _ (by decide +kernel)) rfl (by decide +kernel) ⟨Nat.le_of_ble_eq_true rfl, Nat.le_of_ble_eq_true rfl⟩) rfl rfl (Nat.le_of_ble_eq_true rfl) (Nat.le_of_ble_eq_true rfl) (Nat.le_of_ble_eq_true rfl) dL_law_12 (fun ad2 E2 hk2 hu2 => ?_)
    obtain ⟨⟨_, ady, Ey⟩, po2, hq2, f2⟩ := hu2
    refine g_astore_n X (lv' := [(0, .ref b), (1, .ref q0), (2, .ref q1)]) dL_law_15 rfl (by decide) rfl ?_
    refine g_iconst X (v := nI 0) rfl dL_law_16 ?_
    refine g_istore_n X (lv' := [(0, .ref b), (1, .ref q0), (2, .ref q1), (3, .int (nI 0))]) dL_law_17 rfl (by decide) rfl ?_
    refine g_widen (k := room_1.cells) (n := room_1.slots) (Nat.le_of_ble_eq_true rfl) (Nat.le_of_ble_eq_true rfl) ?_
    have A1 : ∀ k, k < 490 → ad2 k = adx k ∧ E2 k = Ex k := fun k h => by
      have a := hk2 k (by omega)
      have b := f1 k h
      rw [Nat.zero_add] at b
      exact ⟨(a.1.trans (up_n (by omega))).trans b.1, (a.2.trans (up_n (by omega))).trans b.2⟩
    have e0 : ad2 0 = q0 := (A1 0 (by omega)).1.trans hq1
    have e1 : ad2 490 = q1 := (f2 0 (by omega)).1.trans hq2
    intro H locs ls hP hD hS hl
    have hj : ∀ {i j : Nat}, i < 498 → j < 498 → ad2 i = ad2 j → i = j := fun {i j} hi hj he => hD.1 i j _ _ (GW_get hi) (GW_get hj) he
    have hge : ∀ {i : Nat}, i < 498 → s.heap.size ≤ ad2 i := fun {i} hi => hD.2 i _ (GW_get hi)
    have hPC : va_P D vwCl (WW 490 (adP ad2) (cellC cI cL cS (adP ad2)) w0C) H := by
      refine cv_C (E := E2) (fun j hj => hP j _ (GW_get (by omega))) ?_
      have po := po1.2
      obtain ⟨z0, st, ⟨ca, cb, cc⟩, ⟨ne, nl⟩, hi, tx, sc, s0, s1, s2⟩ := po
      have mv : ∀ (k : Nat), k < 490 → ad2 k = adx k ∧ E2 k = Ex k := A1
      refine ⟨?_, st.mv (fun k hk => mv _ (by omega)), ⟨?_, (mv 61 (by omega)).2.trans cb, (mv 62 (by omega)).2.trans cc⟩, ⟨?_, nl.mv (fun k hk => mv _ (by omega))⟩, hi.mv (fun k hk => mv _ (by omega)), tx.mv (fun k hk => mv _ (by omega)), ?_, s0.mv (fun k hk => mv _ (by omega)), s1.mv (fun k hk => mv _ (by omega)), s2.mv (fun k hk => mv _ (by omega))⟩
      · rw [(mv 0 (by omega)).2, (mv 1 (by omega)).1, (mv 60 (by omega)).1, (mv 63 (by omega)).1, (mv 66 (by omega)).1, (mv 481 (by omega)).1, (mv 483 (by omega)).1]; exact z0
      · rw [(mv 60 (by omega)).2, (mv 1 (by omega)).1, (mv 61 (by omega)).1, (mv 62 (by omega)).1]; exact ca
      · rw [(mv 63 (by omega)).2, (mv 1 (by omega)).1, (mv 60 (by omega)).1, (mv 64 (by omega)).1]; exact ne
      · rw [(mv 483 (by omega)).2, (mv 484 (by omega)).1, (mv 486 (by omega)).1, (mv 488 (by omega)).1]; exact sc
    obtain ⟨aR, haR⟩ : ∃ f : Nat → Nat, f = fun k => ad2 (490 + k) := ⟨_, rfl⟩
    have haR' : ∀ k, k < 8 → aR k = ady k := fun k h => by rw [haR]; exact (f2 k h).1
    obtain ⟨v0, hPR, hF⟩ : ∃ v0 : Wd, va_P D vwCl (WW 8 aR (cellR cI aR) v0) H ∧ FR S0 v0 := by
      refine cv_R (E := fun k => E2 (490 + k)) (fun j hj => by rw [haR]; exact hP (490 + j) _ (GW_get (by omega))) ?_
      obtain ⟨m0, ⟨r, m1, rr⟩, m2, m3, m4, m5, m6, m7⟩ := po2.2
      refine ⟨?_, ⟨r, (f2 1 (by omega)).2.trans m1, rr⟩, (f2 2 (by omega)).2.trans m2, (f2 3 (by omega)).2.trans m3, (f2 4 (by omega)).2.trans m4, (f2 5 (by omega)).2.trans m5, (f2 6 (by omega)).2.trans m6, (f2 7 (by omega)).2.trans m7⟩
      rw [haR' 1 (by omega), haR' 2 (by omega), haR' 3 (by omega), haR' 4 (by omega), haR' 5 (by omega), haR' 6 (by omega), haR' 7 (by omega)]
      exact (f2 0 (by omega)).2.trans m0
    have XL : LX p s m #[Value.ref b] c D cI cL cS (adP ad2) aR b L xs := by
      refine ⟨hx, hb, hml, hown, hts, hK, nw_law hts0, ⟨fun i j hi hj2 he => prm_inj hi hj2 (hj (by have := (prm_ok i hi).1; omega) (by have := (prm_ok j hj2).1; omega) he), fun i j hi hj2 he => ?_, fun i j hi hj2 he => ?_, fun i hi => hge (by have := (prm_ok i hi).1; omega), fun j hj2 => by rw [haR]; exact hge (by omega)⟩, hX, hbl, hL⟩
      · rw [haR] at he
        have := hj (i := 490 + i) (j := 490 + j) (by omega) (by omega) he
        omega
      · rw [haR] at he
        have h1 := (prm_ok i hi).1
        have := hj (i := prm i) (j := 490 + j) (by omega) (by omega) he
        omega
    have en := law_loop (l := l) (e := e) (below := below) XL hr hlocks (L + 4) 0 (by omega) (by omega) S0 w0C v0 FC0 hF
    have q0e : adP ad2 472 = q0 := e0
    have q1e : aR 0 = q1 := by rw [haR]; exact e1
    rw [q0e, q1e] at en
    exact en H locs ls hPC hPR hS hl
  exact G s.heap [] ls (fun k q h => by simp [GW] at h) ⟨fun i j p q h => by simp [GW] at h, fun k q h => by simp [GW] at h⟩ va_S.rf hl2
-- ===== YOUR PART ENDS =====
set_option maxHeartbeats 4000000 in
theorem lw_walk (l : Launch) (hflags : l.flags = flags0) (b : Addr) (xs : List Int32) : MetFree l x (headSpec (Jvm.Cond.code x code maxLocals ret :: tables_1) room_1) (lw_P b xs) (fun _ _ _ _ _ => True) lw_Q := by
  refine MetFree.of_bodyS (code := code) (maxLocals := maxLocals) (ret := ret) (by decide) ?_ ?_
  · intro args s m h hn
    obtain ⟨meth, c, h1, h2, h3, h4, h5, h6, -, -⟩ := Cond.code_spec hn (atoms_spec (ws := Jvm.Cond.code x code maxLocals ret :: tables_1) h _ List.mem_cons_self)
    exact ⟨meth, c, h1, h2, h3, h4, h5, h6⟩
  · intro p e s m args below meth c s₁ B hml0 hP _
    obtain ⟨rfl, hx, hbd, hgv⟩ := hP
    obtain ⟨scr, harrAt, hlist, hof, hsmall⟩ := hx
    obtain ⟨hcb, hkn, -, -⟩ := State.arrayAt?_spec harrAt
    have hown : s.vm.findClass R_law = some m.cls := findClass_of_methodNamed B.named
    have hts0 : ∀ c ∈ (Jvm.Cond.code x code maxLocals ret :: tables_1), c.before #[Value.ref b] s = true := atoms_spec (ws := Jvm.Cond.code x code maxLocals ret :: tables_1) B.pre
    have hts : ∀ w ∈ lw_tbl, w.before #[Value.ref b] s = true := k2_hts_sels lw_privs (fun w hw => hts0 w (List.mem_cons_of_mem _ hw)) lw_privs_ok
    have hml : c.maxLocals = 4 := B.maxLocals_eq (hts0 _ List.mem_cons_self)
    have X₀ : Stand p l e room_1 s m #[Value.ref b] below meth c s₁ [] 0 0 := Stand.of_body B
    have hh0 : s₁.heap = s.heap := by rw [B.state]; rfl
    have hsz : scr.slots.size = xs.length := by rw [← Array.length_toList, hlist, List.length_map]
    have hval : ∀ j : Nat, j < xs.length → scr.slots[j]? = some (.int (xs.getD j 0)) := fun j hj => by
      rw [← Array.getElem?_toList, hlist]
      simp [hj]
    have hbl : b < s.heap.size := (Array.getElem?_eq_some_iff.mp hcb).1
    have hX : va_X b xs.length (fun j => xs.getD j 0) s s.heap := ⟨scr, hcb, hof, hkn, hsz, hval⟩
    have K : W p l e room_1 s m #[Value.ref b] below meth c s₁.heap [] 0 0 (lw_Z below #[Value.ref b] s) (entryFrame m ([Value.ref b] : List Value).toArray 4) := by
      rw [hh0]
      exact whole_start l hflags hbd ⟨B.exec, B.bytes, B.returns, hml, hown, hts, hX, hbl, B.notSynchronized, hgv⟩
    obtain ⟨t, a1, o, b1, b2, b3⟩ := K s₁ rfl X₀
    exact ⟨t, o, a1, b1, b2, b3⟩
theorem lw_pre_spec {args : Array Value} {s : State} (h : (Jvm.Cond.and given_1 narrow_1).before args s = true) (hr : rest_1_c.before args s = true) : ∃ (b : Addr) (xs : List Int32), lw_P b xs args s := by
  have hs := flat_of_before _ h
  have hq := flat_of_before _ hr
  have hc : (Cond.count 1).before args s = true := hs _ (by decide +kernel)
  have harr : (Cond.arrayOf (.arg 0) .int).before args s = true := hs _ (by decide +kernel)
  have hle : (Cond.le (.length (.arg 0)) (.int 2048)).before args s = true := hs _ (by decide +kernel)
  have hlen : (Cond.isInt (.length (.arg 0))).before args s = true := hq _ (by decide +kernel)
  have hall : (Cond.all (.arg 0) (.isInt (.elem (.arg 0) (.index 0)))).before args s = true := hq _ (by decide +kernel)
  obtain ⟨b, xs, hb, hx⟩ := State.ints_of_pre rfl harr hlen hall
  have hsm : xs.length < 2 ^ 31 := hx.choose_spec.2.2.2
  have hev : (Term.length (.arg 0)).eval args s none [] s = some (.int xs.length.toInt32) := hx.length_eval hb
  have hv := Cond.le_ints hev (show (Term.int 2048).eval args s none [] s = some (.int 2048) from rfl)
  have hd : xs.length.toInt32 ≤ 2048 := by
    simpa [Cond.before, Cond.holds, hv] using hle
  have hN : xs.length ≤ 2048 := (Int32.ofNat_le_ofNat hsm (by decide)).mp (show Int32.ofNat xs.length ≤ Int32.ofNat 2048 from hd)
  exact ⟨b, xs, Cond.one_arg hc (show args[0]? = some (.ref b) from hb), hx, hN, h⟩
theorem lw_comes (l : Launch) (hflags : l.flags = flags0) : Comes l x (Jvm.Cond.code x code maxLocals ret :: tables_1) room_1 (fun tb e args s => Calls_1 tb e args s ∧ rest_1 tb e args s ∧ Pre_1 tb e args s)
    (fun _ _ args s o t => lw_Q args s o t) := by
  intro p e ha hc hk s m args below hf hfit hheap happ hpre
  obtain ⟨b, xs, hP⟩ := lw_pre_spec hpre.2.2 hpre.2.1
  obtain ⟨k, o, h1, h2, h3, hQ⟩ := lw_walk l hflags b xs p e ha hc hk s m args below hf ((Spec.applies_iff_loose hf).mp happ).1 hP trivial
  exact ⟨k, o, h1, h2, h3, hQ⟩
theorem lw_frame {s t : State} {o : Outcome} {args : Array Value} (h : Framed s o t [] room_1.cells room_1.slots) :
    Framed s o t (fieldLocs frame_1_writes args s ++ arrayLocs frame_1_arrays args s ++ staticLocs frame_1_statics s) room_1.cells room_1.slots := h
theorem lw_limb (L : Cond) (hL : ∀ (args : Array Value) (s t : State), L.after args s (.returned (some (.int 1))) t = true) :
    ArmFor flags0 classFile x code maxLocals ret World_1 tables_1 room_1 Calls_1 rest_1 Pre_1
      (fun tb e a s o t => postC L tb e a s o t ∧ Framed s o t (fieldLocs frame_1_writes a s ++ arrayLocs frame_1_arrays a s ++ staticLocs frame_1_statics s) room_1.cells room_1.slots) := by
  intro l hflags _ _ p e ha hc hk s m args below hf hfit hheap happ hpre
  obtain ⟨k, o, h1, h2, h3, rfl, hF⟩ := lw_comes l hflags p e ha hc hk s m args below hf hfit hheap happ hpre
  exact ⟨k, _, h1, h2, h3, hL args s _, lw_frame hF⟩
theorem i_vc : Claimed_1_1 ∧ Claimed_1_2 := ⟨lw_limb limb_1_1 (fun args s t => by simp [limb_1_1, Cond.after, Cond.holds, Cond.value]), lw_limb limb_1_2 (fun args s t => Cond.after_iff.mpr (by
  first | (rw [show limb_1_2 = Cond.eq .result (.int 1) from rfl, Cond.eq_ints (x := 1) (y := 1) rfl rfl]; simp; done) | (simp [limb_1_2, Cond.value, Term.eval]; done)))⟩
