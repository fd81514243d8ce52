/-! ===== constructors: a contract's form, and the call of one ===== -/
abbrev WW3 : Type := Nat × (Nat → Nat) × (Nat → va_E)
abbrev AO2 (U : State) : Prop := va_AO "ProxyVersions$Line" U ∧ va_AO "ProxyVersions$State" U ∧ NW U
theorem AO2.warm {s U : State} (hW : s.WarmedH U.vm) (h : AO2 s) : AO2 U := ⟨va_AO.moved hW.alike h.1, va_AO.moved hW.alike h.2.1, NW.warm hW h.2.2⟩
theorem AO2.calling {U : State} {g : JFrame} {mk : MethodId} {a : Array Value} (h : AO2 U) : AO2 (U.calling g mk a) := ⟨va_AO.moved (u := U) (U := U.calling g mk a) (Vm.Alike.refl U.vm) h.1, va_AO.moved (u := U) (U := U.calling g mk a) (Vm.Alike.refl U.vm) h.2.1, NW.calling h.2.2⟩
def A1 (h0 sz : Nat) : Nat → Prop := fun q => q = h0 ∨ sz ≤ q
abbrev CPre (D : va_G) (tys : List (ClassId × FieldType)) (ci : Nat) (fs : List Value) (h0 sz : Nat) (av : List Value) : Array Value → State → Prop := va_Pc (.ref h0 :: av) (fun U => U.heap.size = sz ∧ va_P D vwCl [(h0, .inr (ci, fs))] U.heap ∧ va_K D vwCl tys U ∧ AO2 U)
abbrev CPost (D : va_G) (Post : WW3 → Prop) (h0 sz : Nat) : Array Value → State → Outcome → State → Prop := va_Qv (fun u : WW3 => Post u ∧ u.2.1 0 = h0) (fun u t => va_P D vwCl (GW u.1 u.2.1 u.2.2) t.heap ∧ va_D (A1 h0 sz) (GW u.1 u.2.1 u.2.2)) (A1 h0 sz)
def CT (l : Launch) (y : MethodName) (ws : List Cond) (rm : Room) (D : va_G) (tys : List (ClassId × FieldType)) (ci : Nat) (fs av : List Value) (Post : WW3 → Prop) (mc ms : Nat) : Prop := ∀ h0 sz, Met l y ws rm (CPre D tys ci fs h0 sz av) (CPost D Post h0 sz) mc ms (A1 h0 sz)
section GJC
variable {p : Program} {l : Launch} {e : Env} {R : Room} {s : State} {m : MethodId} {args : Array Value} {below : List Frame} {meth : Method} {c : Code} {Q : State → Prop} {nL : Nat} {D : va_G} {A : Nat → Prop} {n9 : Nat} {ad : Nat → Nat} {E : Nat → va_E} {cells slots : Nat} {pc : Nat} {lv : List (Nat × Value)} {st : List Value} {cc : ByteArray} {own : String} {Ts : List Cond} {tys : List (ClassId × FieldType)}
theorem g_widen {k n : Nat} (h1 : cells ≤ k) (h2 : slots ≤ n) (kk : GJ p l e R s m args below meth c Q nL D A n9 ad E k n pc lv st) : GJ p l e R s m args below meth c Q nL D A n9 ad E cells slots pc lv st := fun H locs ls hP hD hS hl => W.widen (k := k) (n := n) h1 h2 (kk H locs ls hP hD hS hl)
theorem g_world {n' : Nat} {ad' : Nat → Nat} {E' : Nat → va_E} (hn : n9 = n') (h1 : ∀ k, k < n9 → ad k = ad' k) (h2 : ∀ k, k < n9 → E k = E' k) (kk : GJ p l e R s m args below meth c Q nL D A n' ad' E' cells slots pc lv st) : GJ p l e R s m args below meth c Q nL D A n9 ad E cells slots pc lv st := by
  subst hn
  intro H locs ls hP hD hS hl
  rw [GW_cong h1 h2] at hP hD
  exact kk H locs ls hP hD hS hl
theorem g_vret {Post : WW3 → Prop} {h0 : Nat} (X : GX p s m args meth c cc nL own Ts D tys (A1 h0 s.heap.size)) (hr : meth.sig.returnType = none) (hpo : Post (n9, ad, E)) (ha : ad 0 = h0) (d : decode cc pc = .ok (.return_, 1)) : GJ p l e R s m args below meth c (MQ below (CPost D Post h0 s.heap.size) args s cells slots (A1 h0 s.heap.size)) nL D (A1 h0 s.heap.size) n9 ad E cells slots pc lv [] := fun H locs ls hP hD hS hl => W.vret X.1 X.2.1 hr (fun t ht hW => ⟨⟨(n9, ad, E), rfl, ⟨hpo, ha⟩, by rw [ht]; exact hP, hD⟩, hS.F ht⟩) hS.2.2 d X.2.2.2.2.2.2.2
theorem mk_ctor {y : MethodName} {ws ws' : List Cond} {rm : Room} {Post : WW3 → Prop} {maxL ci mc ms : Nat} {fs av : List Value} (lv0 : Nat → List (Nat × Value)) (hy : plainName y.cls = true) (hw : ws = Cond.code y cc maxL none :: ws') (ho : y.cls = own) (hy1 : y.name = "<init>") (hlen : ∀ h0, (lg_sl (.ref h0 :: av)).length ≤ maxL) (hlv : ∀ h0, lv_args 0 (.ref h0 :: av) = lv0 h0) (hcat : ∀ h0, (lv0 h0).all (fun q => q.2.category == 1) = true)
    (body : ∀ (h0 : Nat) (p : Program) (e : Env) (s : State) (m : MethodId) (args : Array Value) (below : List Frame) (meth : Method) (c : Code), GX p s m args meth c cc maxL own ws D tys (A1 h0 s.heap.size) → meth.sig.returnType = none → meth.name = "<init>" → AO2 s → GJ p l e rm s m args below meth c (MQ below (CPost D Post h0 s.heap.size) args s mc ms (A1 h0 s.heap.size)) maxL D (A1 h0 s.heap.size) 1 (fun _ => h0) (fun _ => .inr (ci, fs)) 0 0 0 (lv0 h0) []) : CT l y ws rm D tys ci fs av Post mc ms := by
  intro h0 sz
  refine Met.ofW (cc := cc) (maxL := maxL) (ret := none) hy hw ?_
  intro p e s m args below meth c s₁ B hml hv
  obtain ⟨rfl, hsz, hP, hK, hO⟩ := hv
  subst hsz
  have hts := atoms_spec (ws := ws) B.pre
  have hown : s.vm.findClass own = some m.cls := by rw [← ho]; exact findClass_of_methodNamed B.named
  have hin : meth.name = "<init>" := by rw [← hy1]; exact (name_of_methodNamed B.named B.method).1
  have hl := lv_entry (.ref h0 :: av) (n := maxL) (hlen h0)
  rw [lg_entry_eq]
  rw [hlv] at hl
  have e1 : GW 1 (fun _ => h0) (fun _ => .inr (ci, fs)) = [(h0, .inr (ci, fs))] := rfl
  have hD : va_D (A1 h0 s.heap.size) (GW 1 (fun _ => h0) (fun _ => .inr (ci, fs))) := by
    refine ⟨fun i j x y hx hy' _ => ?_, fun k q hk => ?_⟩
    · have h1 := (GW_of hx).1
      have h2 := (GW_of hy').1
      omega
    · rw [(GW_of hk).2]; exact Or.inl rfl
  exact body h0 p e s m _ below meth c ⟨B.exec, B.bytes, hml, hown, hts, hK, fun q hq => Or.inr hq, B.notSynchronized⟩ B.returns hin hO s.heap [] _ hP hD va_S.rf ⟨hl, fun q hq => by simpa using List.all_eq_true.mp (hcat h0) q hq⟩
/-- a constructor called on the last cell -/
def adC (n9 : Nat) (ad ad2 : Nat → Nat) : Nat → Nat := fun k => if k < n9 then ad k else ad2 (k - n9)
def EC (n9 : Nat) (E E2 : Nat → va_E) : Nat → va_E := fun k => if k < n9 then E k else E2 (k - n9)
theorem blindC {ci h0 sz : Nat} {fs av : List Value} : FrameBlind (CPre D tys ci fs h0 sz av) := fun a U g mk q => by
  obtain ⟨q0, q1, q2, q3, q4⟩ := q
  exact ⟨q0, q1, q2, va_K.moved (u := U) (U := U.calling g mk a) (Vm.Alike.refl U.vm) q3, AO2.calling q4⟩
theorem g_callI (X : GX p s m args meth c cc nL own Ts D tys A) (hO : AO2 s) {y : MethodName} {bytes : ByteArray} {maxL n index : Nat} {ws : List Cond} {rm : Room} {Post : WW3 → Prop} {mc ms ci h1 : Nat} {fs : List Value} (As : List Value) (hM : CT l y ws rm D tys ci fs As Post mc ms) (he : E n9 = .inr (ci, fs)) (ha : ad n9 = h1) (cw : CallB R s args own index y bytes maxL none ws rm mc ms n ∧ y.name = "<init>" ∧ (Cond.instanceMethod y).before args s = true) {st0 : List Value} (hst : st0 = As.reverse ++ .ref h1 :: st) (hn : As.length = n) (hst8 : (st.map fun v => v.category).sum ≤ 8) (hcl : cells + mc ≤ R.cells) (hsl : slots + ms ≤ R.slots) (d : decode cc pc = .ok (.invokespecial index, 3)) (kk : ∀ (u : WW3), Post u → u.2.1 0 = h1 → GJ p l e R s m args below meth c Q nL D A (n9 + u.1) (adC n9 ad u.2.1) (EC n9 E u.2.2) (cells + mc) (slots + ms) (pc + 3) lv st) : GJ p l e R s m args below meth c Q nL D A (n9 + 1) ad E cells slots pc lv st0 := by
  subst hst
  intro H locs ls hP hD hS hl
  have hP1 : va_P D vwCl [(h1, .inr (ci, fs))] H := by
    intro k q hk
    have hk0 : k = 0 := by
      have := (List.getElem?_eq_some_iff.mp hk).1
      simp at this
      omega
    subst hk0
    cases hk
    have := hP n9 _ (GW_get (Nat.lt_succ_self _))
    rw [he, ha] at this
    exact this
  have hA1 : ∀ q, A1 h1 H.size q → A q := by
    rintro q (rfl | hq)
    · have := hD.2 n9 _ (GW_get (Nat.lt_succ_self _))
      rwa [ha] at this
    · exact X.2.2.2.2.2.2.1 q (Nat.le_trans hS.1 hq)
  refine va_callv (va_runI (As := As) (rest := st) ⟨X.1, X.2.1, X.2.2.1, X.2.2.2.1, X.2.2.2.2.1⟩ (hM h1 H.size) cw ⟨blindC, fun U hU hW => ⟨rfl, by rw [hU], by rw [hU]; exact hP1, va_K.moved hW.alike X.2.2.2.2.2.1, AO2.warm hW hO⟩⟩ rfl hn hl.1.1 rfl (lv_room hst8) d ⟨hcl, hsl⟩) hS (fun q _ h => hA1 q h) hA1 (fun u t H1 locs1 ht hvm hw hB hz hk hS1 => ?_)
  obtain ⟨hB1, hB2⟩ := hB
  rw [ht] at hB1
  have old : ∀ k, k < n9 → ad k < H.size ∧ ad k ≠ h1 := by
    intro k hk9
    refine ⟨(hP k _ (GW_get (by omega))).lt, fun e1 => ?_⟩
    have := hD.1 k n9 _ _ (GW_get (by omega)) (GW_get (by omega)) (e1.trans ha.symm)
    omega
  refine kk u hw.1 hw.2 H1 locs1 ls ?_ ?_ hS1 hl
  · intro k q hkq
    obtain ⟨hlt, rfl⟩ := GW_of hkq
    unfold adC EC
    by_cases g : k < n9
    · rw [if_pos g, if_pos g]
      obtain ⟨o1, o2⟩ := old k g
      exact (hP k _ (GW_get (by omega))).kept (hk _ o1 (fun z => z.elim o2 (fun z => by omega)))
    · rw [if_neg g, if_neg g]
      exact hB1 (k - n9) _ (GW_get (by omega))
  · refine ⟨fun i j x y hx hy hxy => ?_, fun k q hkq => ?_⟩
    · obtain ⟨hi, rfl⟩ := GW_of hx
      obtain ⟨hj, rfl⟩ := GW_of hy
      unfold adC EC at hxy
      dsimp only at hxy
      have cal : ∀ k, k < u.1 → A1 h1 H.size (u.2.1 k) := fun k hk2 => hB2.2 k _ (GW_get hk2)
      by_cases g : i < n9
      · by_cases g2 : j < n9
        · rw [if_pos g, if_pos g2] at hxy
          exact hD.1 i j _ _ (GW_get (by omega)) (GW_get (by omega)) hxy
        · rw [if_pos g, if_neg g2] at hxy
          obtain ⟨o1, o2⟩ := old i g
          rw [hxy] at o1 o2
          exact absurd (cal (j - n9) (by omega)) (fun z => z.elim o2 (fun z => by omega))
      · by_cases g2 : j < n9
        · rw [if_neg g, if_pos g2] at hxy
          obtain ⟨o1, o2⟩ := old j g2
          rw [← hxy] at o1 o2
          exact absurd (cal (i - n9) (by omega)) (fun z => z.elim o2 (fun z => by omega))
        · rw [if_neg g, if_neg g2] at hxy
          have := hB2.1 (i - n9) (j - n9) _ _ (GW_get (by omega)) (GW_get (by omega)) hxy
          omega
    · obtain ⟨hlt, rfl⟩ := GW_of hkq
      show A (adC n9 ad u.2.1 k)
      unfold adC
      by_cases g : k < n9
      · rw [if_pos g]; exact hD.2 k (ad k, E k) (GW_get (by omega))
      · rw [if_neg g]; exact hA1 _ (hB2.2 (k - n9) (u.2.1 (k - n9), u.2.2 (k - n9)) (GW_get (by omega)))
end GJC
