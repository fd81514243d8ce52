/-! ===== the world of a fixed set of cells, each a row of ints; one judgement over it (written by wip/whole/tools/gen_rows.py) ===== -/
abbrev nF : List (String × Nat × String × String × String × String) := [("ProxyVersions", 107, "ProxyVersions$State", "proxies", "I", "ProxyVersions"), ("ProxyVersions", 111, "ProxyVersions$State", "rangeLimit", "I", "ProxyVersions"), ("ProxyVersions", 114, "ProxyVersions$State", "memory", "I", "ProxyVersions"), ("ProxyVersions", 120, "ProxyVersions$State", "refusals", "I", "ProxyVersions"), ("ProxyVersions", 123, "ProxyVersions$State", "overflows", "I", "ProxyVersions"), ("ProxyVersions", 126, "ProxyVersions$State", "losses", "I", "ProxyVersions"), ("ProxyVersions", 129, "ProxyVersions$State", "evictions", "I", "ProxyVersions"), ("ProxyVersions$Network", 113, "ProxyVersions$State", "losses", "I", "ProxyVersions"), ("ProxyVersions$Network", 134, "ProxyVersions$State", "refusals", "I", "ProxyVersions"), ("ProxyVersions$Network", 185, "ProxyVersions$State", "evictions", "I", "ProxyVersions"), ("ProxyVersions$Network", 195, "ProxyVersions$State", "overflows", "I", "ProxyVersions"), ("ProxyVersions$Network", 34, "ProxyVersions$State", "proxies", "I", "ProxyVersions"), ("ProxyVersions$Network", 55, "ProxyVersions$State", "rangeLimit", "I", "ProxyVersions"), ("ProxyVersions$Network", 58, "ProxyVersions$State", "memory", "I", "ProxyVersions")]
abbrev nM : List (String × Nat × MethodName × String) := [("ProxyVersions", 52, ⟨"ProxyVersions$Script", "<init>", "()V"⟩, "ProxyVersions"), ("ProxyVersions$Network", 160, ⟨"ProxyVersions", "originOf", "(I)I"⟩, "ProxyVersions"), ("ProxyVersions$Network", 163, ⟨"ProxyVersions", "versionOf", "(I)I"⟩, "ProxyVersions"), ("ProxyVersions$Network", 42, ⟨"ProxyVersions", "isOrigin", "(I)Z"⟩, "ProxyVersions"), ("ProxyVersions$Network", 76, ⟨"ProxyVersions", "updateOf", "(II)I"⟩, "ProxyVersions"), ("ProxyVersions$State", 90, ⟨"ProxyVersions", "isOrigin", "(I)Z"⟩, "ProxyVersions")]
abbrev Wd : Type := Nat → Nat → Int32
def wset (w : Wd) (k j : Nat) (x : Int32) : Wd := va_up w k (upd (w k) j x)
def wcpy (w : Wd) (k0 k1 sp dp n : Nat) : Wd := va_up w k1 (va_cpy (w k0) (w k1) sp dp n)
def lt {α β : Type} (a : α) (f : α → β) : β := f a
abbrev ib (i : Int32) (n : Nat) : Prop := ¬ (i < 0 ∨ n ≤ i.toNatClampNeg)
theorem f_lt {α β : Type} {a : α} {f : α → Option β} {o : β} (h : lt a f = some o) : ∃ x, x = a ∧ f x = some o := ⟨a, rfl, h⟩
theorem f_bd {α β : Type} {a : Option α} {f : α → Option β} {o : β} (h : a.bind f = some o) : ∃ x, a = some x ∧ f x = some o := Option.bind_eq_some_iff.mp h
theorem f_t {β : Type} {c : Prop} {_ : Decidable c} {a b : Option β} {o : β} (hc : c) (h : (if c then a else b) = some o) : a = some o := by rwa [if_pos hc] at h
theorem f_f {β : Type} {c : Prop} {_ : Decidable c} {a b : Option β} {o : β} (hc : ¬ c) (h : (if c then a else b) = some o) : b = some o := by rwa [if_neg hc] at h
theorem f_c {β : Type} {c : Prop} {_ : Decidable c} {a : Option β} {o : β} (h : (if c then a else none) = some o) : c ∧ a = some o := by
  by_cases hc : c
  · exact ⟨hc, by rwa [if_pos hc] at h⟩
  · rw [if_neg hc] at h; cases h
theorem f_n {β : Type} {o : β} {P : Prop} (h : (none : Option β) = some o) : P := by cases h
theorem f_s {β : Type} {a o : β} (h : some a = some o) : a = o := Option.some.inj h
def WW (N : Nat) (ad : Nat → Nat) (cell : Nat → (Nat → Int32) → va_E) (w : Wd) : va_W := (List.range N).map fun k => (ad k, cell k (w k))
theorem WW_get {N : Nat} {ad : Nat → Nat} {cell : Nat → (Nat → Int32) → va_E} {w : Wd} {k : Nat} (hk : k < N) : (WW N ad cell w)[k]? = some (ad k, cell k (w k)) := by simp [WW, hk]
theorem WW_of {N : Nat} {ad : Nat → Nat} {cell : Nat → (Nat → Int32) → va_E} {w : Wd} {k : Nat} {q : Nat × va_E} (h : (WW N ad cell w)[k]? = some q) : k < N ∧ q = (ad k, cell k (w k)) := by
  have hk : k < N := by
    have := (List.getElem?_eq_some_iff.mp h).1
    simpa [WW] using this
  rw [WW_get hk] at h
  exact ⟨hk, (Option.some.inj h).symm⟩
theorem WW_set {N : Nat} {ad : Nat → Nat} {cell : Nat → (Nat → Int32) → va_E} {w : Wd} {k : Nat} (r : Nat → Int32) : (WW N ad cell w).set k (ad k, cell k r) = WW N ad cell (va_up w k r) := by
  apply List.ext_getElem?
  intro j
  by_cases hj : j < N
  · rw [WW_get hj]
    by_cases e : k = j
    · subst e
      rw [List.getElem?_set_self (by simpa [WW] using hj)]
      simp [va_up]
    · rw [List.getElem?_set_ne e, WW_get hj]
      simp [va_up, Ne.symm e]
  · rw [List.getElem?_eq_none (by simpa [WW] using Nat.le_of_not_lt hj), List.getElem?_eq_none (by simpa [WW] using Nat.le_of_not_lt hj)]
def AW (N : Nat) (ad : Nat → Nat) : Nat → Prop := fun q => ∃ k, k < N ∧ q = ad k
def Inj (N : Nat) (ad : Nat → Nat) : Prop := ∀ i j, i < N → j < N → ad i = ad j → i = j
theorem WW_D {N : Nat} {ad : Nat → Nat} {cell : Nat → (Nat → Int32) → va_E} {w : Wd} (h : Inj N ad) : va_D (AW N ad) (WW N ad cell w) := by
  refine ⟨fun i j x y hi hj e => ?_, fun k q hk => ?_⟩
  · obtain ⟨h1, rfl⟩ := WW_of hi
    obtain ⟨h2, rfl⟩ := WW_of hj
    exact h i j h1 h2 e
  · obtain ⟨h1, rfl⟩ := WW_of hk
    exact ⟨k, h1, rfl⟩
def NW (U : State) : Prop := (∀ t ∈ nF, va_Nw (.fieldLinkNest t.1 t.2.1 t.2.2.1 t.2.2.2.1 t.2.2.2.2.1 t.2.2.2.2.2) U) ∧ ∀ t ∈ nM, va_Nw (.methodLinkNest t.1 t.2.1 t.2.2.1 t.2.2.2) U
theorem NW.warm {s U : State} (hW : s.WarmedH U.vm) (h : NW s) : NW U := ⟨fun t ht => va_Nw.warmF hW (h.1 t ht), fun t ht => va_Nw.warmM hW (h.2 t ht)⟩
theorem NW.calling {U : State} {g : JFrame} {mk : MethodId} {a : Array Value} (h : NW U) : NW (U.calling g mk a) := ⟨fun t ht => va_Nw.same rfl rfl (h.1 t ht), fun t ht => va_Nw.same rfl rfl (h.2 t ht)⟩
/-- a world held in a state -/
def PW (D : va_G) (tys : List (ClassId × FieldType)) (N : Nat) (ad : Nat → Nat) (cell : Nat → (Nat → Int32) → va_E) (w : Wd) (U : State) : Prop := va_P D vwCl (WW N ad cell w) U.heap ∧ va_K D vwCl tys U ∧ NW U
abbrev QWi (D : va_G) (N : Nat) (ad : Nat → Nat) (cell : Nat → (Nat → Int32) → va_E) (r : Int32) (w : Wd) : Array Value → State → Outcome → State → Prop := va_Qi (fun (x : Int32) (_ : Unit) => x = r) (fun _ t => va_P D vwCl (WW N ad cell w) t.heap) (AW N ad)
abbrev QWv (D : va_G) (N : Nat) (ad : Nat → Nat) (cell : Nat → (Nat → Int32) → va_E) (w : Wd) : Array Value → State → Outcome → State → Prop := va_Qv (fun (_ : Unit) => True) (fun _ t => va_P D vwCl (WW N ad cell w) t.heap) (AW N ad)
abbrev QWr (D : va_G) (N : Nat) (ad : Nat → Nat) (cell : Nat → (Nat → Int32) → va_E) (k : Nat) (w : Wd) : Array Value → State → Outcome → State → Prop := va_Qr (fun (_ : Unit) => True) (fun _ a t => a = ad k ∧ va_P D vwCl (WW N ad cell w) t.heap) (AW N ad)
/-- the locals by number, all of one slot -/
def lins : List (Nat × Value) → Nat → Value → List (Nat × Value)
  | [], i, v => [(i, v)]
  | q :: l, i, v => if i < q.1 then (i, v) :: q :: l else q :: lins l i v
def lset (lv : List (Nat × Value)) (i : Nat) (v : Value) : List (Nat × Value) := lins (lv.filter fun q => !(q.1 == i)) i v
def lh (ls : Array Slot) (nL : Nat) (lv : List (Nat × Value)) : Prop := lv_has ls nL lv ∧ ∀ q ∈ lv, q.2.category = 1
theorem lins_mem {i : Nat} {v : Value} : ∀ {l : List (Nat × Value)} {q : Nat × Value}, q ∈ lins l i v → q = (i, v) ∨ q ∈ l
  | [], q, h => by simp [lins] at h; exact Or.inl h
  | p :: l, q, h => by
    simp only [lins] at h
    split at h
    · rcases List.mem_cons.mp h with h | h
      · exact Or.inl h
      · exact Or.inr h
    · rcases List.mem_cons.mp h with h | h
      · exact Or.inr (by rw [h]; exact List.mem_cons_self)
      · rcases lins_mem h with h | h
        · exact Or.inl h
        · exact Or.inr (List.mem_cons_of_mem _ h)
theorem lh_set {ls ls' : Array Slot} {nL : Nat} {lv lv' : List (Nat × Value)} {i : Nat} {v : Value} (h : lh ls nL lv) (hv : v.category = 1) (h' : lv_has ls' nL ((i, v) :: lv.filter (fun q => !(q.1 == i) && !(q.1 + 1 == i && q.2.category == 2)))) (e : lset lv i v = lv') : lh ls' nL lv' := by
  subst e
  have key : ∀ q ∈ lset lv i v, q = (i, v) ∨ (q ∈ lv ∧ (!(q.1 == i)) = true) := by
    intro q hq
    rcases lins_mem hq with h | h
    · exact Or.inl h
    · exact Or.inr (List.mem_filter.mp h)
  refine ⟨⟨h'.1, h'.2.1, fun q hq => ?_⟩, fun q hq => ?_⟩
  · rcases key q hq with rfl | ⟨h1, h2⟩
    · exact h'.2.2 _ List.mem_cons_self
    · refine h'.2.2 _ (List.mem_cons_of_mem _ (List.mem_filter.mpr ⟨h1, ?_⟩))
      have hc := h.2 q h1
      simp only [h2, hc, Bool.true_and]
      simp
  · rcases key q hq with rfl | ⟨h1, -⟩
    · exact hv
    · exact h.2 q h1
theorem lh_sub {ls : Array Slot} {nL : Nat} {l l' : List (Nat × Value)} (h : lh ls nL l) (ks : List Nat) (hl : lv_pick l ks = l') : lh ls nL l' := by
  refine ⟨lv_sub h.1 ks hl, fun q hq => ?_⟩
  rw [← hl] at hq
  obtain ⟨k, -, hk⟩ := List.mem_filterMap.mp hq
  exact h.2 q (List.mem_of_getElem? hk)
/-- the machine, in the world w at pc with these locals and this stack, comes to Q -/
def WJ (p : Program) (l : Launch) (e : Env) (R : Room) (s : State) (m : MethodId) (args : Array Value) (below : List Frame) (meth : Method) (c : Code) (Q : State → Prop) (nL : Nat) (D : va_G) (N : Nat) (ad : Nat → Nat) (cell : Nat → (Nat → Int32) → va_E) (w : Wd) (pc : Nat) (lv : List (Nat × Value)) (st : List Value) : Prop :=
  ∀ (H : Heap) (locs : List Loc) (ls : Array Slot), va_P D vwCl (WW N ad cell w) H → va_S (AW N ad) s.heap H locs → lh ls nL lv → W p l e R s m args below meth c H locs 0 0 Q (F0 m pc ls st)
/-- what holds of the method's own start -/
def CX (p : Program) (R : Room) (s : State) (m : MethodId) (args : Array Value) (c : Code) (cc : ByteArray) (nL : Nat) (own : String) (Ts : List Cond) (D : va_G) (tys : List (ClassId × FieldType)) (N : Nat) (ad : Nat → Nat) : Prop :=
  p.tables.exec = Jvm.exec ∧ c.code = cc ∧ c.maxLocals = nL ∧ s.vm.findClass own = some m.cls ∧ (∀ w ∈ Ts, w.before args s = true) ∧ va_K D vwCl tys s ∧ NW s ∧ Inj N ad
section WJR
variable {p : Program} {l : Launch} {e : Env} {R : Room} {s : State} {m : MethodId} {args : Array Value} {below : List Frame} {meth : Method} {c : Code} {Q : State → Prop} {nL : Nat} {D : va_G} {N : Nat} {ad : Nat → Nat} {cell : Nat → (Nat → Int32) → va_E} {w : Wd} {pc : Nat} {lv : List (Nat × Value)} {st : List Value} {cc : ByteArray} {own : String} {Ts : List Cond} {tys : List (ClassId × FieldType)}
theorem j_iconst (X : CX p R s m args c cc nL own Ts D tys N ad) {n : Int} {v : Int32} (hv : Int32.ofInt n = v) (d : decode cc pc = .ok (.iconst n, 1)) (kk : WJ p l e R s m args below meth c Q nL D N ad cell w (pc + 1) lv (.int v :: st)) : WJ p l e R s m args below meth c Q nL D N ad cell w pc lv st := fun H locs ls hP hS hl => lv_iconst X.1 X.2.1 d hv (kk H locs ls hP hS hl)
theorem j_bipush (X : CX p R s m args c cc nL own Ts D tys N ad) {n : Int} {v : Int32} (hv : (Int8.ofInt n).toInt32 = v) (d : decode cc pc = .ok (.bipush n, 2)) (kk : WJ p l e R s m args below meth c Q nL D N ad cell w (pc + 2) lv (.int v :: st)) : WJ p l e R s m args below meth c Q nL D N ad cell w pc lv st := fun H locs ls hP hS hl => lv_bipush X.1 X.2.1 d hv (kk H locs ls hP hS hl)
theorem j_sipush (X : CX p R s m args c cc nL own Ts D tys N ad) {n : Int} {v : Int32} (hv : (Int16.ofInt n).toInt32 = v) (d : decode cc pc = .ok (.sipush n, 3)) (kk : WJ p l e R s m args below meth c Q nL D N ad cell w (pc + 3) lv (.int v :: st)) : WJ p l e R s m args below meth c Q nL D N ad cell w pc lv st := fun H locs ls hP hS hl => lv_sipush X.1 X.2.1 d hv (kk H locs ls hP hS hl)
theorem j_iadd (X : CX p R s m args c cc nL own Ts D tys N ad) {x y : Int32} (d : decode cc pc = .ok (.iadd, 1)) (kk : WJ p l e R s m args below meth c Q nL D N ad cell w (pc + 1) lv (.int (x + y) :: st)) : WJ p l e R s m args below meth c Q nL D N ad cell w pc lv (.int y :: .int x :: st) := fun H locs ls hP hS hl => lv_iadd X.1 X.2.1 d (kk H locs ls hP hS hl)
theorem j_isub (X : CX p R s m args c cc nL own Ts D tys N ad) {x y : Int32} (d : decode cc pc = .ok (.isub, 1)) (kk : WJ p l e R s m args below meth c Q nL D N ad cell w (pc + 1) lv (.int (x - y) :: st)) : WJ p l e R s m args below meth c Q nL D N ad cell w pc lv (.int y :: .int x :: st) := fun H locs ls hP hS hl => lv_isub X.1 X.2.1 d (kk H locs ls hP hS hl)
theorem j_imul (X : CX p R s m args c cc nL own Ts D tys N ad) {x y : Int32} (d : decode cc pc = .ok (.imul, 1)) (kk : WJ p l e R s m args below meth c Q nL D N ad cell w (pc + 1) lv (.int (x * y) :: st)) : WJ p l e R s m args below meth c Q nL D N ad cell w pc lv (.int y :: .int x :: st) := fun H locs ls hP hS hl => lv_imul X.1 X.2.1 d (kk H locs ls hP hS hl)
theorem j_iand (X : CX p R s m args c cc nL own Ts D tys N ad) {x y : Int32} (d : decode cc pc = .ok (.iand, 1)) (kk : WJ p l e R s m args below meth c Q nL D N ad cell w (pc + 1) lv (.int (x &&& y) :: st)) : WJ p l e R s m args below meth c Q nL D N ad cell w pc lv (.int y :: .int x :: st) := fun H locs ls hP hS hl => lv_iand X.1 X.2.1 d (kk H locs ls hP hS hl)
theorem j_ior (X : CX p R s m args c cc nL own Ts D tys N ad) {x y : Int32} (d : decode cc pc = .ok (.ior, 1)) (kk : WJ p l e R s m args below meth c Q nL D N ad cell w (pc + 1) lv (.int (x ||| y) :: st)) : WJ p l e R s m args below meth c Q nL D N ad cell w pc lv (.int y :: .int x :: st) := fun H locs ls hP hS hl => lv_ior X.1 X.2.1 d (kk H locs ls hP hS hl)
theorem j_ixor (X : CX p R s m args c cc nL own Ts D tys N ad) {x y : Int32} (d : decode cc pc = .ok (.ixor, 1)) (kk : WJ p l e R s m args below meth c Q nL D N ad cell w (pc + 1) lv (.int (x ^^^ y) :: st)) : WJ p l e R s m args below meth c Q nL D N ad cell w pc lv (.int y :: .int x :: st) := fun H locs ls hP hS hl => lv_ixor X.1 X.2.1 d (kk H locs ls hP hS hl)
theorem j_ishl (X : CX p R s m args c cc nL own Ts D tys N ad) {x y : Int32} (d : decode cc pc = .ok (.ishl, 1)) (kk : WJ p l e R s m args below meth c Q nL D N ad cell w (pc + 1) lv (.int (x <<< (y &&& 31)) :: st)) : WJ p l e R s m args below meth c Q nL D N ad cell w pc lv (.int y :: .int x :: st) := fun H locs ls hP hS hl => lv_ishl X.1 X.2.1 d (kk H locs ls hP hS hl)
theorem j_ishr (X : CX p R s m args c cc nL own Ts D tys N ad) {x y : Int32} (d : decode cc pc = .ok (.ishr, 1)) (kk : WJ p l e R s m args below meth c Q nL D N ad cell w (pc + 1) lv (.int (x >>> (y &&& 31)) :: st)) : WJ p l e R s m args below meth c Q nL D N ad cell w pc lv (.int y :: .int x :: st) := fun H locs ls hP hS hl => lv_ishr X.1 X.2.1 d (kk H locs ls hP hS hl)
theorem j_ineg (X : CX p R s m args c cc nL own Ts D tys N ad) {x : Int32} (d : decode cc pc = .ok (.ineg, 1)) (kk : WJ p l e R s m args below meth c Q nL D N ad cell w (pc + 1) lv (.int (-x) :: st)) : WJ p l e R s m args below meth c Q nL D N ad cell w pc lv (.int x :: st) := fun H locs ls hP hS hl => lv_ineg X.1 X.2.1 d (kk H locs ls hP hS hl)
theorem j_idiv (X : CX p R s m args c cc nL own Ts D tys N ad) {x y : Int32} (hne : ¬ y = 0) (d : decode cc pc = .ok (.idiv, 1)) (kk : WJ p l e R s m args below meth c Q nL D N ad cell w (pc + 1) lv (.int (x / y) :: st)) : WJ p l e R s m args below meth c Q nL D N ad cell w pc lv (.int y :: .int x :: st) := fun H locs ls hP hS hl => lv_idiv X.1 X.2.1 d hne (kk H locs ls hP hS hl)
theorem j_irem (X : CX p R s m args c cc nL own Ts D tys N ad) {x y : Int32} (hne : ¬ y = 0) (d : decode cc pc = .ok (.irem, 1)) (kk : WJ p l e R s m args below meth c Q nL D N ad cell w (pc + 1) lv (.int (x - x / y * y) :: st)) : WJ p l e R s m args below meth c Q nL D N ad cell w pc lv (.int y :: .int x :: st) := fun H locs ls hP hS hl => lv_irem X.1 X.2.1 d hne (kk H locs ls hP hS hl)
theorem j_iushr (X : CX p R s m args c cc nL own Ts D tys N ad) {x y v : Int32} (hv : (x.toUInt32 >>> (y.toUInt32 &&& Int32.toUInt32 31)).toInt32 = v) (d : decode cc pc = .ok (.iushr, 1)) (kk : WJ p l e R s m args below meth c Q nL D N ad cell w (pc + 1) lv (.int v :: st)) : WJ p l e R s m args below meth c Q nL D N ad cell w pc lv (.int y :: .int x :: st) := fun H locs ls hP hS hl => lv_iushr X.1 X.2.1 d hv (kk H locs ls hP hS hl)
theorem j_dup (X : CX p R s m args c cc nL own Ts D tys N ad) {va : Value} (h1 : va.category = 1) (d : decode cc pc = .ok (.dup, 1)) (kk : WJ p l e R s m args below meth c Q nL D N ad cell w (pc + 1) lv (va :: va :: st)) : WJ p l e R s m args below meth c Q nL D N ad cell w pc lv (va :: st) := fun H locs ls hP hS hl => lv_dup X.1 X.2.1 d h1 (kk H locs ls hP hS hl)
theorem j_pop (X : CX p R s m args c cc nL own Ts D tys N ad) {va : Value} (h1 : va.category = 1) (d : decode cc pc = .ok (.pop, 1)) (kk : WJ p l e R s m args below meth c Q nL D N ad cell w (pc + 1) lv st) : WJ p l e R s m args below meth c Q nL D N ad cell w pc lv (va :: st) := fun H locs ls hP hS hl => lv_pop X.1 X.2.1 d h1 (kk H locs ls hP hS hl)
theorem j_dup2 (X : CX p R s m args c cc nL own Ts D tys N ad) {va vb : Value} (h1 : va.category = 1) (h2 : vb.category = 1) (d : decode cc pc = .ok (.dup2, 1)) (kk : WJ p l e R s m args below meth c Q nL D N ad cell w (pc + 1) lv (va :: vb :: va :: vb :: st)) : WJ p l e R s m args below meth c Q nL D N ad cell w pc lv (va :: vb :: st) := fun H locs ls hP hS hl => lv_dup2_11 X.1 X.2.1 d h1 h2 (kk H locs ls hP hS hl)
theorem j_goto (X : CX p R s m args c cc nL own Ts D tys N ad) {off : Int} {tgt : Nat} (d : decode cc pc = .ok (.goto off, 3)) (ht : (pc : Int) + off = (tgt : Int)) (kk : WJ p l e R s m args below meth c Q nL D N ad cell w tgt lv st) : WJ p l e R s m args below meth c Q nL D N ad cell w pc lv st := fun H locs ls hP hS hl => lv_goto X.1 X.2.1 d ht (kk H locs ls hP hS hl)
theorem j_if_eq (X : CX p R s m args c cc nL own Ts D tys N ad) {x : Int32} {off : Int} {tgt : Nat} (d : decode cc pc = .ok (.ifCond .eq off, 3)) (ht : (pc : Int) + off = (tgt : Int)) (kt : x = 0 → WJ p l e R s m args below meth c Q nL D N ad cell w tgt lv st) (kf : ¬ x = 0 → WJ p l e R s m args below meth c Q nL D N ad cell w (pc + 3) lv st) : WJ p l e R s m args below meth c Q nL D N ad cell w pc lv (.int x :: st) := fun H locs ls hP hS hl => lv_if_eq X.1 X.2.1 d ht (fun q => kt q H locs ls hP hS hl) (fun q => kf q H locs ls hP hS hl)
theorem j_icmp_eq (X : CX p R s m args c cc nL own Ts D tys N ad) {x y : Int32} {off : Int} {tgt : Nat} (d : decode cc pc = .ok (.if_icmp .eq off, 3)) (ht : (pc : Int) + off = (tgt : Int)) (kt : x = y → WJ p l e R s m args below meth c Q nL D N ad cell w tgt lv st) (kf : ¬ x = y → WJ p l e R s m args below meth c Q nL D N ad cell w (pc + 3) lv st) : WJ p l e R s m args below meth c Q nL D N ad cell w pc lv (.int y :: .int x :: st) := fun H locs ls hP hS hl => lv_icmp_eq X.1 X.2.1 d ht (fun q => kt q H locs ls hP hS hl) (fun q => kf q H locs ls hP hS hl)
theorem j_if_ne (X : CX p R s m args c cc nL own Ts D tys N ad) {x : Int32} {off : Int} {tgt : Nat} (d : decode cc pc = .ok (.ifCond .ne off, 3)) (ht : (pc : Int) + off = (tgt : Int)) (kt : ¬ x = 0 → WJ p l e R s m args below meth c Q nL D N ad cell w tgt lv st) (kf : x = 0 → WJ p l e R s m args below meth c Q nL D N ad cell w (pc + 3) lv st) : WJ p l e R s m args below meth c Q nL D N ad cell w pc lv (.int x :: st) := fun H locs ls hP hS hl => lv_if_ne X.1 X.2.1 d ht (fun q => kt q H locs ls hP hS hl) (fun q => kf q H locs ls hP hS hl)
theorem j_icmp_ne (X : CX p R s m args c cc nL own Ts D tys N ad) {x y : Int32} {off : Int} {tgt : Nat} (d : decode cc pc = .ok (.if_icmp .ne off, 3)) (ht : (pc : Int) + off = (tgt : Int)) (kt : ¬ x = y → WJ p l e R s m args below meth c Q nL D N ad cell w tgt lv st) (kf : x = y → WJ p l e R s m args below meth c Q nL D N ad cell w (pc + 3) lv st) : WJ p l e R s m args below meth c Q nL D N ad cell w pc lv (.int y :: .int x :: st) := fun H locs ls hP hS hl => lv_icmp_ne X.1 X.2.1 d ht (fun q => kt q H locs ls hP hS hl) (fun q => kf q H locs ls hP hS hl)
theorem j_if_lt (X : CX p R s m args c cc nL own Ts D tys N ad) {x : Int32} {off : Int} {tgt : Nat} (d : decode cc pc = .ok (.ifCond .lt off, 3)) (ht : (pc : Int) + off = (tgt : Int)) (kt : x < 0 → WJ p l e R s m args below meth c Q nL D N ad cell w tgt lv st) (kf : ¬ x < 0 → WJ p l e R s m args below meth c Q nL D N ad cell w (pc + 3) lv st) : WJ p l e R s m args below meth c Q nL D N ad cell w pc lv (.int x :: st) := fun H locs ls hP hS hl => lv_if_lt X.1 X.2.1 d ht (fun q => kt q H locs ls hP hS hl) (fun q => kf q H locs ls hP hS hl)
theorem j_icmp_lt (X : CX p R s m args c cc nL own Ts D tys N ad) {x y : Int32} {off : Int} {tgt : Nat} (d : decode cc pc = .ok (.if_icmp .lt off, 3)) (ht : (pc : Int) + off = (tgt : Int)) (kt : x < y → WJ p l e R s m args below meth c Q nL D N ad cell w tgt lv st) (kf : ¬ x < y → WJ p l e R s m args below meth c Q nL D N ad cell w (pc + 3) lv st) : WJ p l e R s m args below meth c Q nL D N ad cell w pc lv (.int y :: .int x :: st) := fun H locs ls hP hS hl => lv_icmp_lt X.1 X.2.1 d ht (fun q => kt q H locs ls hP hS hl) (fun q => kf q H locs ls hP hS hl)
theorem j_if_ge (X : CX p R s m args c cc nL own Ts D tys N ad) {x : Int32} {off : Int} {tgt : Nat} (d : decode cc pc = .ok (.ifCond .ge off, 3)) (ht : (pc : Int) + off = (tgt : Int)) (kt : 0 ≤ x → WJ p l e R s m args below meth c Q nL D N ad cell w tgt lv st) (kf : ¬ 0 ≤ x → WJ p l e R s m args below meth c Q nL D N ad cell w (pc + 3) lv st) : WJ p l e R s m args below meth c Q nL D N ad cell w pc lv (.int x :: st) := fun H locs ls hP hS hl => lv_if_ge X.1 X.2.1 d ht (fun q => kt q H locs ls hP hS hl) (fun q => kf q H locs ls hP hS hl)
theorem j_icmp_ge (X : CX p R s m args c cc nL own Ts D tys N ad) {x y : Int32} {off : Int} {tgt : Nat} (d : decode cc pc = .ok (.if_icmp .ge off, 3)) (ht : (pc : Int) + off = (tgt : Int)) (kt : y ≤ x → WJ p l e R s m args below meth c Q nL D N ad cell w tgt lv st) (kf : ¬ y ≤ x → WJ p l e R s m args below meth c Q nL D N ad cell w (pc + 3) lv st) : WJ p l e R s m args below meth c Q nL D N ad cell w pc lv (.int y :: .int x :: st) := fun H locs ls hP hS hl => lv_icmp_ge X.1 X.2.1 d ht (fun q => kt q H locs ls hP hS hl) (fun q => kf q H locs ls hP hS hl)
theorem j_if_gt (X : CX p R s m args c cc nL own Ts D tys N ad) {x : Int32} {off : Int} {tgt : Nat} (d : decode cc pc = .ok (.ifCond .gt off, 3)) (ht : (pc : Int) + off = (tgt : Int)) (kt : 0 < x → WJ p l e R s m args below meth c Q nL D N ad cell w tgt lv st) (kf : ¬ 0 < x → WJ p l e R s m args below meth c Q nL D N ad cell w (pc + 3) lv st) : WJ p l e R s m args below meth c Q nL D N ad cell w pc lv (.int x :: st) := fun H locs ls hP hS hl => lv_if_gt X.1 X.2.1 d ht (fun q => kt q H locs ls hP hS hl) (fun q => kf q H locs ls hP hS hl)
theorem j_icmp_gt (X : CX p R s m args c cc nL own Ts D tys N ad) {x y : Int32} {off : Int} {tgt : Nat} (d : decode cc pc = .ok (.if_icmp .gt off, 3)) (ht : (pc : Int) + off = (tgt : Int)) (kt : y < x → WJ p l e R s m args below meth c Q nL D N ad cell w tgt lv st) (kf : ¬ y < x → WJ p l e R s m args below meth c Q nL D N ad cell w (pc + 3) lv st) : WJ p l e R s m args below meth c Q nL D N ad cell w pc lv (.int y :: .int x :: st) := fun H locs ls hP hS hl => lv_icmp_gt X.1 X.2.1 d ht (fun q => kt q H locs ls hP hS hl) (fun q => kf q H locs ls hP hS hl)
theorem j_if_le (X : CX p R s m args c cc nL own Ts D tys N ad) {x : Int32} {off : Int} {tgt : Nat} (d : decode cc pc = .ok (.ifCond .le off, 3)) (ht : (pc : Int) + off = (tgt : Int)) (kt : x ≤ 0 → WJ p l e R s m args below meth c Q nL D N ad cell w tgt lv st) (kf : ¬ x ≤ 0 → WJ p l e R s m args below meth c Q nL D N ad cell w (pc + 3) lv st) : WJ p l e R s m args below meth c Q nL D N ad cell w pc lv (.int x :: st) := fun H locs ls hP hS hl => lv_if_le X.1 X.2.1 d ht (fun q => kt q H locs ls hP hS hl) (fun q => kf q H locs ls hP hS hl)
theorem j_icmp_le (X : CX p R s m args c cc nL own Ts D tys N ad) {x y : Int32} {off : Int} {tgt : Nat} (d : decode cc pc = .ok (.if_icmp .le off, 3)) (ht : (pc : Int) + off = (tgt : Int)) (kt : x ≤ y → WJ p l e R s m args below meth c Q nL D N ad cell w tgt lv st) (kf : ¬ x ≤ y → WJ p l e R s m args below meth c Q nL D N ad cell w (pc + 3) lv st) : WJ p l e R s m args below meth c Q nL D N ad cell w pc lv (.int y :: .int x :: st) := fun H locs ls hP hS hl => lv_icmp_le X.1 X.2.1 d ht (fun q => kt q H locs ls hP hS hl) (fun q => kf q H locs ls hP hS hl)
theorem j_iload_n (X : CX p R s m args c cc nL own Ts D tys N ad) {k : Fin 4} {i : Nat} {x : Int32} (j : Nat) (d : decode cc pc = .ok (.iload_n k, 1)) (hi : (k : Nat) = i) (hj : lv[j]? = some (i, .int x)) (kk : WJ p l e R s m args below meth c Q nL D N ad cell w (pc + 1) lv (.int x :: st)) : WJ p l e R s m args below meth c Q nL D N ad cell w pc lv st := fun H locs ls hP hS hl => lv_iload_n X.1 X.2.1 d hi (lv_at hl.1 j hj) (kk H locs ls hP hS hl)
theorem j_iload (X : CX p R s m args c cc nL own Ts D tys N ad) {i : Nat} {x : Int32} (j : Nat) (d : decode cc pc = .ok (.iload i, 2)) (hj : lv[j]? = some (i, .int x)) (kk : WJ p l e R s m args below meth c Q nL D N ad cell w (pc + 2) lv (.int x :: st)) : WJ p l e R s m args below meth c Q nL D N ad cell w pc lv st := fun H locs ls hP hS hl => lv_iload X.1 X.2.1 d (lv_at hl.1 j hj) (kk H locs ls hP hS hl)
theorem j_istore_n (X : CX p R s m args c cc nL own Ts D tys N ad) {k : Fin 4} {i : Nat} {x : Int32} {lv' : List (Nat × Value)} (d : decode cc pc = .ok (.istore_n k, 1)) (hi : (k : Nat) = i) (hn : i < nL) (hl' : lset lv i (.int x) = lv') (kk : WJ p l e R s m args below meth c Q nL D N ad cell w (pc + 1) lv' st) : WJ p l e R s m args below meth c Q nL D N ad cell w pc lv (.int x :: st) := fun H locs ls hP hS hl => lv_istore_n X.1 X.2.1 d hi hl.1 hn rfl (fun _ h9 => kk H locs _ hP hS (lh_set hl rfl h9 hl'))
theorem j_istore (X : CX p R s m args c cc nL own Ts D tys N ad) {i : Nat} {x : Int32} {lv' : List (Nat × Value)} (d : decode cc pc = .ok (.istore i, 2)) (hn : i < nL) (hl' : lset lv i (.int x) = lv') (kk : WJ p l e R s m args below meth c Q nL D N ad cell w (pc + 2) lv' st) : WJ p l e R s m args below meth c Q nL D N ad cell w pc lv (.int x :: st) := fun H locs ls hP hS hl => lv_istore X.1 X.2.1 d hl.1 hn rfl (fun _ h9 => kk H locs _ hP hS (lh_set hl rfl h9 hl'))
theorem j_aload_n (X : CX p R s m args c cc nL own Ts D tys N ad) {k : Fin 4} {i : Nat} {x : Nat} (j : Nat) (d : decode cc pc = .ok (.aload_n k, 1)) (hi : (k : Nat) = i) (hj : lv[j]? = some (i, .ref x)) (kk : WJ p l e R s m args below meth c Q nL D N ad cell w (pc + 1) lv (.ref x :: st)) : WJ p l e R s m args below meth c Q nL D N ad cell w pc lv st := fun H locs ls hP hS hl => lv_aload_n X.1 X.2.1 d hi (lv_at hl.1 j hj) (kk H locs ls hP hS hl)
theorem j_aload (X : CX p R s m args c cc nL own Ts D tys N ad) {i : Nat} {x : Nat} (j : Nat) (d : decode cc pc = .ok (.aload i, 2)) (hj : lv[j]? = some (i, .ref x)) (kk : WJ p l e R s m args below meth c Q nL D N ad cell w (pc + 2) lv (.ref x :: st)) : WJ p l e R s m args below meth c Q nL D N ad cell w pc lv st := fun H locs ls hP hS hl => lv_aload X.1 X.2.1 d (lv_at hl.1 j hj) (kk H locs ls hP hS hl)
theorem j_astore_n (X : CX p R s m args c cc nL own Ts D tys N ad) {k : Fin 4} {i : Nat} {x : Nat} {lv' : List (Nat × Value)} (d : decode cc pc = .ok (.astore_n k, 1)) (hi : (k : Nat) = i) (hn : i < nL) (hl' : lset lv i (.ref x) = lv') (kk : WJ p l e R s m args below meth c Q nL D N ad cell w (pc + 1) lv' st) : WJ p l e R s m args below meth c Q nL D N ad cell w pc lv (.ref x :: st) := fun H locs ls hP hS hl => lv_astore_n X.1 X.2.1 d hi hl.1 hn rfl (fun _ h9 => kk H locs _ hP hS (lh_set hl rfl h9 hl'))
theorem j_astore (X : CX p R s m args c cc nL own Ts D tys N ad) {i : Nat} {x : Nat} {lv' : List (Nat × Value)} (d : decode cc pc = .ok (.astore i, 2)) (hn : i < nL) (hl' : lset lv i (.ref x) = lv') (kk : WJ p l e R s m args below meth c Q nL D N ad cell w (pc + 2) lv' st) : WJ p l e R s m args below meth c Q nL D N ad cell w pc lv (.ref x :: st) := fun H locs ls hP hS hl => lv_astore X.1 X.2.1 d hl.1 hn rfl (fun _ h9 => kk H locs _ hP hS (lh_set hl rfl h9 hl'))
theorem j_iinc (X : CX p R s m args c cc nL own Ts D tys N ad) {i : Nat} {n : Int} {x v : Int32} {lv' : List (Nat × Value)} (j : Nat) (d : decode cc pc = .ok (.iinc i n, 3)) (hj : lv[j]? = some (i, .int x)) (hv : x + Int32.ofInt n = v) (hn : i < nL) (hl' : lset lv i (.int v) = lv') (kk : WJ p l e R s m args below meth c Q nL D N ad cell w (pc + 3) lv' st) : WJ p l e R s m args below meth c Q nL D N ad cell w pc lv st := fun H locs ls hP hS hl => lv_iinc (k := j) X.1 X.2.1 d hl.1 hj hv hn rfl (fun _ h9 => kk H locs _ hP hS (lh_set hl rfl h9 hl'))
theorem j_sub (ks : List Nat) {lv' : List (Nat × Value)} (hl' : lv_pick lv ks = lv') (kk : WJ p l e R s m args below meth c Q nL D N ad cell w pc lv' st) : WJ p l e R s m args below meth c Q nL D N ad cell w pc lv st := fun H locs ls hP hS hl => kk H locs ls hP hS (lh_sub hl ks hl')
theorem j_top {x y : Int32} (hy : y = x) (kk : WJ p l e R s m args below meth c Q nL D N ad cell w pc lv (.int y :: st)) : WJ p l e R s m args below meth c Q nL D N ad cell w pc lv (.int x :: st) := by subst hy; exact kk
theorem j_ldc (X : CX p R s m args c cc nL own Ts D tys N ad) {index : Nat} {v : Int32} (hc : Jvm.Cond.constant own index v ∈ Ts) (d : decode cc pc = .ok (.ldc index, 2)) (kk : WJ p l e R s m args below meth c Q nL D N ad cell w (pc + 2) lv (.int v :: st)) : WJ p l e R s m args below meth c Q nL D N ad cell w pc lv st := fun H locs ls hP hS hl => lv_ldc X.1 X.2.1 X.2.2.2.1 (X.2.2.2.2.1 _ hc) d (kk H locs ls hP hS hl)
theorem j_ldcw (X : CX p R s m args c cc nL own Ts D tys N ad) {index : Nat} {v : Int32} (hc : Jvm.Cond.constant own index v ∈ Ts) (d : decode cc pc = .ok (.ldc_w index, 3)) (kk : WJ p l e R s m args below meth c Q nL D N ad cell w (pc + 3) lv (.int v :: st)) : WJ p l e R s m args below meth c Q nL D N ad cell w pc lv st := fun H locs ls hP hS hl => lv_ldcw X.1 X.2.1 X.2.2.2.1 (X.2.2.2.2.1 _ hc) d (kk H locs ls hP hS hl)
theorem j_tin (X : CX p R s m args c cc nL own Ts D tys N ad) {dflt lo hi : Int} {offs : Array Int} {len : Nat} {x : Int32} {off : Int} {tgt : Nat} (d : decode cc pc = .ok (.tableswitch dflt lo hi offs, len)) (h1 : ¬ x.toInt < lo) (h2 : ¬ hi < x.toInt) (ho : offs[(x.toInt - lo).toNat]? = some off) (ht : (pc : Int) + off = (tgt : Int)) (kk : WJ p l e R s m args below meth c Q nL D N ad cell w tgt lv st) : WJ p l e R s m args below meth c Q nL D N ad cell w pc lv (.int x :: st) := fun H locs ls hP hS hl => lv_tableIn X.1 X.2.1 d h1 h2 ho ht (kk H locs ls hP hS hl)
theorem j_tout (X : CX p R s m args c cc nL own Ts D tys N ad) {dflt lo hi : Int} {offs : Array Int} {len : Nat} {x : Int32} {tgt : Nat} (d : decode cc pc = .ok (.tableswitch dflt lo hi offs, len)) (h : x.toInt < lo ∨ hi < x.toInt) (ht : (pc : Int) + dflt = (tgt : Int)) (kk : WJ p l e R s m args below meth c Q nL D N ad cell w tgt lv st) : WJ p l e R s m args below meth c Q nL D N ad cell w pc lv (.int x :: st) := fun H locs ls hP hS hl => lv_tableOut X.1 X.2.1 d h ht (kk H locs ls hP hS hl)
theorem j_look (X : CX p R s m args c cc nL own Ts D tys N ad) {dflt : Int} {ps : Array (Int × Int)} {len : Nat} {x : Int32} {off : Int} {tgt : Nat} (d : decode cc pc = .ok (.lookupswitch dflt ps, len)) (hp : (ps.toList.zip (ps.toList.drop 1)).all (fun (a, next) => a.1 < next.1) = true) (ho : Op.lookupswitch.offset ps.toList dflt x.toInt = off) (ht : (pc : Int) + off = (tgt : Int)) (kk : WJ p l e R s m args below meth c Q nL D N ad cell w tgt lv st) : WJ p l e R s m args below meth c Q nL D N ad cell w pc lv (.int x :: st) := fun H locs ls hP hS hl => lv_lookup X.1 X.2.1 d hp ho ht (kk H locs ls hP hS hl)
/-- k is an int array of n cells, of class cI -/
def isI (N : Nat) (cell : Nat → (Nat → Int32) → va_E) (cI : ClassId) (k n : Nat) : Prop := k < N ∧ ∀ r, cell k r = .inl (cI, n, .inl r)
def isO (N : Nat) (cell : Nat → (Nat → Int32) → va_E) (ci k : Nat) (fs : (Nat → Int32) → List Value) : Prop := k < N ∧ ∀ r, cell k r = .inr (ci, fs r)
/-- an array of references that never changes: its j-th is the cell f j -/
def isQ (N : Nat) (ad : Nat → Nat) (cell : Nat → (Nat → Int32) → va_E) (cA : ClassId) (k n : Nat) (f : Nat → Nat) : Prop := k < N ∧ ∀ r, cell k r = .inl (cA, n, .inr (.inr (.inr (.inr (fun j => some (ad (f j)))))))
theorem j_iald (X : CX p R s m args c cc nL own Ts D tys N ad) {cI : ClassId} {k n : Nat} (t0 : Nat) (ht : tys[t0]? = some (cI, .int)) (hk : isI N cell cI k n) {i : Int32} (hin : ib i n) (d : decode cc pc = .ok (.iaload, 1)) (kk : WJ p l e R s m args below meth c Q nL D N ad cell w (pc + 1) lv (.int (w k i.toNatClampNeg) :: st)) : WJ p l e R s m args below meth c Q nL D N ad cell w pc lv (.int i :: .ref (ad k) :: st) := fun H locs ls hP hS hl => va_iald (f := w k) X.1 X.2.1 X.2.2.2.2.2.1 hP k t0 ((WW_get hk.1).trans (by rw [hk.2])) ht hin d (kk H locs ls hP hS hl)
theorem j_alen (X : CX p R s m args c cc nL own Ts D tys N ad) {cI : ClassId} {k n : Nat} (t0 : Nat) (ht : tys[t0]? = some (cI, .int)) (hk : isI N cell cI k n) (d : decode cc pc = .ok (.arraylength, 1)) (kk : WJ p l e R s m args below meth c Q nL D N ad cell w (pc + 1) lv (.int (Int32.ofNat n) :: st)) : WJ p l e R s m args below meth c Q nL D N ad cell w pc lv (.ref (ad k) :: st) := fun H locs ls hP hS hl => va_alen X.1 X.2.1 X.2.2.2.2.2.1 hP k t0 (x := (n, .inl (w k))) ((WW_get hk.1).trans (by rw [hk.2])) ht rfl d (kk H locs ls hP hS hl)
theorem j_iast (X : CX p R s m args c cc nL own Ts D tys N ad) {cI : ClassId} {k n : Nat} (t0 : Nat) (ht : tys[t0]? = some (cI, .int)) (hk : isI N cell cI k n) {i x : Int32} {w1 : Wd} (hin : ib i n) (d : decode cc pc = .ok (.iastore, 1)) (hw : w1 = wset w k i.toNatClampNeg x) (kk : WJ p l e R s m args below meth c Q nL D N ad cell w1 (pc + 1) lv st) : WJ p l e R s m args below meth c Q nL D N ad cell w pc lv (.int x :: .int i :: .ref (ad k) :: st) := by
  intro H locs ls hP hS hl
  subst hw
  refine va_iast (f := w k) (A := AW N ad) X.1 X.2.1 X.2.2.2.2.2.1 hP (WW_D X.2.2.2.2.2.2.2) hS k t0 ((WW_get hk.1).trans (by rw [hk.2])) ht hin d (fun H1 locs1 hP1 _ hS1 => kk H1 locs1 ls ?_ hS1 hl)
  have h := hP1
  rw [← hk.2, WW_set] at h
  exact h
theorem j_get (X : CX p R s m args c cc nL own Ts D tys N ad) {ref C : String} {T : u_T} {NN ci index k : Nat} {fs : (Nat → Int32) → List Value} {v : Value} (ho : isO N cell ci k fs) (hin : ∀ w ∈ u_ws C T NN, w ∈ Ts) (hc : vwCl[ci]? = some (C, T, NN)) (j : Nat) (hj : j < NN) (hl1 : Cond.fieldLink own index ref (T j).2.1 (T j).2.2.1 ∈ Ts) (hr : (T j).1 = ref) (hv : (fs (w k))[j]? = some v) (d : decode cc pc = .ok (.getfield index, 3)) (kk : WJ p l e R s m args below meth c Q nL D N ad cell w (pc + 3) lv (v :: st)) : WJ p l e R s m args below meth c Q nL D N ad cell w pc lv (.ref (ad k) :: st) := fun H locs ls hP hS hl => va_get X.1 X.2.1 X.2.2.2.2.1 hin X.2.2.2.1 X.2.2.2.2.2.1 hP k ((WW_get ho.1).trans (by rw [ho.2])) hc j hj (X.2.2.2.2.1 _ hl1) (fun x h => by rw [← hr]; exact h) hv d (kk H locs ls hP hS hl)
theorem j_getN (X : CX p R s m args c cc nL own Ts D tys N ad) {ref C host : String} {T : u_T} {NN ci index k : Nat} {fs : (Nat → Int32) → List Value} {v : Value} (ho : isO N cell ci k fs) (hin : ∀ w ∈ u_ws C T NN, w ∈ Ts) (hc : vwCl[ci]? = some (C, T, NN)) (j : Nat) (hj : j < NN) (hl1 : (own, index, ref, (T j).2.1, (T j).2.2.1, host) ∈ nF) (hr : (T j).1 = ref) (hv : (fs (w k))[j]? = some v) (d : decode cc pc = .ok (.getfield index, 3)) (kk : WJ p l e R s m args below meth c Q nL D N ad cell w (pc + 3) lv (v :: st)) : WJ p l e R s m args below meth c Q nL D N ad cell w pc lv (.ref (ad k) :: st) := fun H locs ls hP hS hl => va_getN X.1 X.2.1 X.2.2.2.2.1 hin X.2.2.2.1 X.2.2.2.2.2.1 hP k ((WW_get ho.1).trans (by rw [ho.2])) hc j hj (va_Nw.use rfl (X.2.2.2.2.2.2.1.1 _ hl1)) (fun x h => by rw [← hr]; exact h) hv d (kk H locs ls hP hS hl)
theorem j_put (X : CX p R s m args c cc nL own Ts D tys N ad) {ref C : String} {T : u_T} {NN ci index k : Nat} {fs : (Nat → Int32) → List Value} {x : Int32} {w1 : Wd} {ty0 : Nat → FieldType} (ho : isO N cell ci k fs) (hin : ∀ w ∈ u_ws C T NN, w ∈ Ts) (hty : ∀ k, k < NN → parseFieldDescriptor (T k).2.2.1 = some (ty0 k)) (hnm : ∀ a, a < NN → ∀ b, b < NN → a ≠ b → (T a).2.1 ≠ (T b).2.1) (hc : vwCl[ci]? = some (C, T, NN)) (j : Nat) (hj : j < NN) (hl1 : Cond.fieldLink own index ref (T j).2.1 (T j).2.2.1 ∈ Ts) (hr : (T j).1 = ref) (hfin : (T j).2.2.2 = false) (hd : ty0 j = .int) (hlen : j < (fs (w k)).length) (hset : (fs (w k)).set j (.int x) = fs (upd (w k) j x)) (d : decode cc pc = .ok (.putfield index, 3)) (hw : w1 = wset w k j x) (kk : WJ p l e R s m args below meth c Q nL D N ad cell w1 (pc + 3) lv st) : WJ p l e R s m args below meth c Q nL D N ad cell w pc lv (.int x :: .ref (ad k) :: st) := by
  intro H locs ls hP hS hl
  subst hw
  refine va_put (A := AW N ad) X.1 X.2.1 X.2.2.2.2.1 hin ty0 hty hnm X.2.2.2.1 X.2.2.2.2.2.1 hP (WW_D X.2.2.2.2.2.2.2) hS k ((WW_get ho.1).trans (by rw [ho.2])) hc j hj (X.2.2.2.2.1 _ hl1) (fun x h => by rw [← hr]; exact h) hfin ((hty j hj).trans (by rw [hd])) rfl rfl hlen d (fun H1 locs1 hP1 _ hS1 => kk H1 locs1 ls ?_ hS1 hl)
  have h := hP1
  rw [hset, ← ho.2, WW_set] at h
  exact h
theorem j_putN (X : CX p R s m args c cc nL own Ts D tys N ad) {ref C host : String} {T : u_T} {NN ci index k : Nat} {fs : (Nat → Int32) → List Value} {x : Int32} {w1 : Wd} {ty0 : Nat → FieldType} (ho : isO N cell ci k fs) (hin : ∀ w ∈ u_ws C T NN, w ∈ Ts) (hty : ∀ k, k < NN → parseFieldDescriptor (T k).2.2.1 = some (ty0 k)) (hnm : ∀ a, a < NN → ∀ b, b < NN → a ≠ b → (T a).2.1 ≠ (T b).2.1) (hc : vwCl[ci]? = some (C, T, NN)) (j : Nat) (hj : j < NN) (hl1 : (own, index, ref, (T j).2.1, (T j).2.2.1, host) ∈ nF) (hr : (T j).1 = ref) (hfin : (T j).2.2.2 = false) (hd : ty0 j = .int) (hlen : j < (fs (w k)).length) (hset : (fs (w k)).set j (.int x) = fs (upd (w k) j x)) (d : decode cc pc = .ok (.putfield index, 3)) (hw : w1 = wset w k j x) (kk : WJ p l e R s m args below meth c Q nL D N ad cell w1 (pc + 3) lv st) : WJ p l e R s m args below meth c Q nL D N ad cell w pc lv (.int x :: .ref (ad k) :: st) := by
  intro H locs ls hP hS hl
  subst hw
  refine va_putN (A := AW N ad) X.1 X.2.1 X.2.2.2.2.1 hin ty0 hty hnm X.2.2.2.1 X.2.2.2.2.2.1 hP (WW_D X.2.2.2.2.2.2.2) hS k ((WW_get ho.1).trans (by rw [ho.2])) hc j hj (va_Nw.use rfl (X.2.2.2.2.2.2.1.1 _ hl1)) (fun x h => by rw [← hr]; exact h) hfin ((hty j hj).trans (by rw [hd])) rfl rfl hlen d (fun H1 locs1 hP1 _ hS1 => kk H1 locs1 ls ?_ hS1 hl)
  have h := hP1
  rw [hset, ← ho.2, WW_set] at h
  exact h
theorem j_aald (X : CX p R s m args c cc nL own Ts D tys N ad) {cA : ClassId} {C : String} {k n : Nat} {f : Nat → Nat} (t0 : Nat) (ht : tys[t0]? = some (cA, .object C)) (hk : isQ N ad cell cA k n f) {i : Int32} (hin : ib i n) (d : decode cc pc = .ok (.aaload, 1)) (kk : WJ p l e R s m args below meth c Q nL D N ad cell w (pc + 1) lv (.ref (ad (f i.toNatClampNeg)) :: st)) : WJ p l e R s m args below meth c Q nL D N ad cell w pc lv (.int i :: .ref (ad k) :: st) := fun H locs ls hP hS hl => va_aldq (f := fun j => some (ad (f j))) X.1 X.2.1 X.2.2.2.2.2.1 hP k t0 ((WW_get hk.1).trans (by rw [hk.2])) ht hin d (kk H locs ls hP hS hl)
theorem j_alenQ (X : CX p R s m args c cc nL own Ts D tys N ad) {cA : ClassId} {C : String} {k n : Nat} {f : Nat → Nat} (t0 : Nat) (ht : tys[t0]? = some (cA, .object C)) (hk : isQ N ad cell cA k n f) (d : decode cc pc = .ok (.arraylength, 1)) (kk : WJ p l e R s m args below meth c Q nL D N ad cell w (pc + 1) lv (.int (Int32.ofNat n) :: st)) : WJ p l e R s m args below meth c Q nL D N ad cell w pc lv (.ref (ad k) :: st) := fun H locs ls hP hS hl => va_alen X.1 X.2.1 X.2.2.2.2.2.1 hP k t0 (x := (n, .inr (.inr (.inr (.inr (fun j => some (ad (f j)))))))) ((WW_get hk.1).trans (by rw [hk.2])) ht rfl d (kk H locs ls hP hS hl)
theorem j_mmin (X : CX p R s m args c cc nL own Ts D tys N ad) {index : Nat} {x y : Int32} (h1 : Cond.methodLink own index Lib.Math.min.name ∈ Ts) (h2 : Cond.static Lib.Math.min.name ∈ Ts) (h3 : Cond.initialized "java/lang/Math" ∈ Ts) (h4 : Cond.code Lib.Math.min.name Lib.Math.min.code 2 (some .int) ∈ Ts) (hfr : 1 ≤ R.frames) (hlo : (st.map fun v => v.category).sum + 13 ≤ R.locals) (d : decode cc pc = .ok (.invokestatic index, 3)) (kk : WJ p l e R s m args below meth c Q nL D N ad cell w (pc + 3) lv (.int (if y < x then y else x) :: st)) : WJ p l e R s m args below meth c Q nL D N ad cell w pc lv (.int y :: .int x :: st) := fun H locs ls hP hS hl => va_mmin X.1 X.2.1 (X.2.2.1.trans hl.1.1.symm) X.2.2.2.1 (X.2.2.2.2.1 _ h1) (X.2.2.2.2.1 _ h2) (X.2.2.2.2.1 _ h3) (X.2.2.2.2.1 _ h4) hfr hlo (Nat.zero_le _) (Nat.zero_le _) d (kk H locs ls hP hS hl)
theorem j_copy (X : CX p R s m args c cc nL own Ts D tys N ad) {index : Nat} {cI : ClassId} {k0 k1 n0 n1 : Nat} {sp dp n : Int32} {w1 : Wd} (h1 : Cond.methodLink own index arraycopyName ∈ Ts) (h2 : Cond.native arraycopyName ∈ Ts) (h3 : Cond.static arraycopyName ∈ Ts) (h4 : Cond.initialized "java/lang/System" ∈ Ts) (t0 : Nat) (ht : tys[t0]? = some (cI, .int)) (hk0 : isI N cell cI k0 n0) (hk1 : isI N cell cI k1 n1) (q1 : ¬ sp < 0) (q2 : ¬ dp < 0) (q3 : ¬ n < 0) (q4 : sp.toNatClampNeg + n.toNatClampNeg ≤ n0) (q5 : dp.toNatClampNeg + n.toNatClampNeg ≤ n1) (hfr : 1 ≤ R.frames) (hlo : (st.map fun v => v.category).sum + (nativeFrameWords "java/lang/System" "arraycopy" 5 + 11) ≤ R.locals) (d : decode cc pc = .ok (.invokestatic index, 3)) (hw : w1 = wcpy w k0 k1 sp.toNatClampNeg dp.toNatClampNeg n.toNatClampNeg) (kk : WJ p l e R s m args below meth c Q nL D N ad cell w1 (pc + 3) lv st) : WJ p l e R s m args below meth c Q nL D N ad cell w pc lv (.int n :: .int dp :: .ref (ad k1) :: .int sp :: .ref (ad k0) :: st) := by
  intro H locs ls hP hS hl
  subst hw
  refine va_copyi (A := AW N ad) (f := w k0) (g := w k1) X.1 X.2.1 (X.2.2.1.trans hl.1.1.symm) X.2.2.2.1 (X.2.2.2.2.1 _ h1) (X.2.2.2.2.1 _ h2) (X.2.2.2.2.1 _ h3) (X.2.2.2.2.1 _ h4) X.2.2.2.2.2.1 hP (WW_D X.2.2.2.2.2.2.2) hS k0 k1 t0 t0 ((WW_get hk0.1).trans (by rw [hk0.2])) ((WW_get hk1.1).trans (by rw [hk1.2])) ht ht rfl q1 q2 q3 q4 q5 (fun _ _ => rfl) hfr hlo d (fun H1 locs1 hP1 _ hS1 => kk H1 locs1 ls ?_ hS1 hl)
  have h := hP1
  rw [← hk1.2, WW_set] at h
  exact h
theorem va_blind {av : List Value} : FrameBlind (va_Pc av (PW D tys N ad cell w)) := fun a U g mk q => by
  obtain ⟨q0, q1, q2, q3⟩ := q
  exact ⟨q0, q1, va_K.moved (u := U) (U := U.calling g mk a) (Vm.Alike.refl U.vm) q2, NW.calling q3⟩
theorem j_callVi (X : CX p R s m args c cc nL own Ts D tys N ad) {y : MethodName} {bytes : ByteArray} {maxL n index : Nat} {ret : Option FieldType} {ws : List Cond} {rm : Room} {C : String} {w1 : Wd} {st0 : List Value} {r : Int32} {b ci : Nat} {q : vw_C} {fs : (Nat → Int32) → List Value} (ho : isO N cell ci b fs) (hc : vwCl[ci]? = some q) (hC : q.1 = C) (As : List Value) (hM : Met l y ws rm (va_Pc (.ref (ad b) :: As) (PW D tys N ad cell w)) (QWi D N ad cell r w1) 0 0 (AW N ad)) (cw : CallW R s args own C index y bytes maxL ret ws rm 0 0 n) (hst : st0 = As.reverse ++ .ref (ad b) :: st) (hn : As.length = n) (hst8 : (st.map fun v => v.category).sum ≤ 8) (d : decode cc pc = .ok (.invokevirtual index, 3)) (kk : WJ p l e R s m args below meth c Q nL D N ad cell w1 (pc + 3) lv (.int r :: st)) : WJ p l e R s m args below meth c Q nL D N ad cell w pc lv st0 := by
  subst hst
  intro H locs ls hP hS hl
  refine va_calli (va_runV (As := As) (rest := st) ⟨X.1, X.2.1, X.2.2.1, X.2.2.2.1, X.2.2.2.2.1⟩ hM cw ⟨va_blind, by rw [← hC]; exact va_recv X.2.2.2.2.2.1 hP hc ((WW_get ho.1).trans (by rw [ho.2])), fun U hU hW => ⟨rfl, by show va_P _ _ _ U.heap; rw [hU]; exact hP, va_K.moved hW.alike X.2.2.2.2.2.1, NW.warm hW X.2.2.2.2.2.2.1⟩⟩ rfl hn hl.1.1 rfl (lv_room hst8) d ⟨Nat.zero_le _, Nat.zero_le _⟩) hS (fun q _ h => h) (fun q h => h) (fun r2 u t H1 locs1 ht hvm hw hB hz hk hS1 => ?_)
  subst hw
  rw [ht] at hB
  exact kk H1 locs1 ls hB hS1 hl
theorem j_callVv (X : CX p R s m args c cc nL own Ts D tys N ad) {y : MethodName} {bytes : ByteArray} {maxL n index : Nat} {ret : Option FieldType} {ws : List Cond} {rm : Room} {C : String} {w1 : Wd} {st0 : List Value} {b ci : Nat} {q : vw_C} {fs : (Nat → Int32) → List Value} (ho : isO N cell ci b fs) (hc : vwCl[ci]? = some q) (hC : q.1 = C) (As : List Value) (hM : Met l y ws rm (va_Pc (.ref (ad b) :: As) (PW D tys N ad cell w)) (QWv D N ad cell w1) 0 0 (AW N ad)) (cw : CallW R s args own C index y bytes maxL ret ws rm 0 0 n) (hst : st0 = As.reverse ++ .ref (ad b) :: st) (hn : As.length = n) (hst8 : (st.map fun v => v.category).sum ≤ 8) (d : decode cc pc = .ok (.invokevirtual index, 3)) (kk : WJ p l e R s m args below meth c Q nL D N ad cell w1 (pc + 3) lv st) : WJ p l e R s m args below meth c Q nL D N ad cell w pc lv st0 := by
  subst hst
  intro H locs ls hP hS hl
  refine va_callv (va_runV (As := As) (rest := st) ⟨X.1, X.2.1, X.2.2.1, X.2.2.2.1, X.2.2.2.2.1⟩ hM cw ⟨va_blind, by rw [← hC]; exact va_recv X.2.2.2.2.2.1 hP hc ((WW_get ho.1).trans (by rw [ho.2])), fun U hU hW => ⟨rfl, by show va_P _ _ _ U.heap; rw [hU]; exact hP, va_K.moved hW.alike X.2.2.2.2.2.1, NW.warm hW X.2.2.2.2.2.2.1⟩⟩ rfl hn hl.1.1 rfl (lv_room hst8) d ⟨Nat.zero_le _, Nat.zero_le _⟩) hS (fun q _ h => h) (fun q h => h) (fun u t H1 locs1 ht hvm hw hB hz hk hS1 => ?_)
  rw [ht] at hB
  exact kk H1 locs1 ls hB hS1 hl
theorem j_callVr (X : CX p R s m args c cc nL own Ts D tys N ad) {y : MethodName} {bytes : ByteArray} {maxL n index : Nat} {ret : Option FieldType} {ws : List Cond} {rm : Room} {C : String} {w1 : Wd} {st0 : List Value} {r : Nat} {b ci : Nat} {q : vw_C} {fs : (Nat → Int32) → List Value} (ho : isO N cell ci b fs) (hc : vwCl[ci]? = some q) (hC : q.1 = C) (As : List Value) (hM : Met l y ws rm (va_Pc (.ref (ad b) :: As) (PW D tys N ad cell w)) (QWr D N ad cell r w1) 0 0 (AW N ad)) (cw : CallW R s args own C index y bytes maxL ret ws rm 0 0 n) (hst : st0 = As.reverse ++ .ref (ad b) :: st) (hn : As.length = n) (hst8 : (st.map fun v => v.category).sum ≤ 8) (d : decode cc pc = .ok (.invokevirtual index, 3)) (kk : WJ p l e R s m args below meth c Q nL D N ad cell w1 (pc + 3) lv (.ref (ad r) :: st)) : WJ p l e R s m args below meth c Q nL D N ad cell w pc lv st0 := by
  subst hst
  intro H locs ls hP hS hl
  refine va_callr (va_runV (As := As) (rest := st) ⟨X.1, X.2.1, X.2.2.1, X.2.2.2.1, X.2.2.2.2.1⟩ hM cw ⟨va_blind, by rw [← hC]; exact va_recv X.2.2.2.2.2.1 hP hc ((WW_get ho.1).trans (by rw [ho.2])), fun U hU hW => ⟨rfl, by show va_P _ _ _ U.heap; rw [hU]; exact hP, va_K.moved hW.alike X.2.2.2.2.2.1, NW.warm hW X.2.2.2.2.2.2.1⟩⟩ rfl hn hl.1.1 rfl (lv_room hst8) d ⟨Nat.zero_le _, Nat.zero_le _⟩) hS (fun q _ h => h) (fun q h => h) (fun u ra t H1 locs1 ht hvm hw hB hz hk hS1 => ?_)
  obtain ⟨rfl, hB⟩ := hB
  rw [ht] at hB
  exact kk H1 locs1 ls hB hS1 hl
theorem j_callSi (X : CX p R s m args c cc nL own Ts D tys N ad) {y : MethodName} {bytes : ByteArray} {maxL n index : Nat} {ret : Option FieldType} {ws : List Cond} {rm : Room} {w1 : Wd} {st0 : List Value} {r : Int32} (As : List Value) (hM : Met l y ws rm (va_Pc As (PW D tys N ad cell w)) (QWi D N ad cell r w1) 0 0 (AW N ad)) (cw : CallB R s args own index y bytes maxL ret ws rm 0 0 n ∧ (Cond.static y).before args s = true) (hst : st0 = As.reverse ++ st) (hn : As.length = n) (hst8 : (st.map fun v => v.category).sum ≤ 8) (d : decode cc pc = .ok (.invokestatic index, 3)) (kk : WJ p l e R s m args below meth c Q nL D N ad cell w1 (pc + 3) lv (.int r :: st)) : WJ p l e R s m args below meth c Q nL D N ad cell w pc lv st0 := by
  subst hst
  intro H locs ls hP hS hl
  refine va_calli (va_runS (As := As) (rest := st) ⟨X.1, X.2.1, X.2.2.1, X.2.2.2.1, X.2.2.2.2.1⟩ hM cw ⟨va_blind, fun U hU hW => ⟨rfl, by show va_P _ _ _ U.heap; rw [hU]; exact hP, va_K.moved hW.alike X.2.2.2.2.2.1, NW.warm hW X.2.2.2.2.2.2.1⟩⟩ rfl hn hl.1.1 rfl (lv_room hst8) d ⟨Nat.zero_le _, Nat.zero_le _⟩) hS (fun q _ h => h) (fun q h => h) (fun r2 u t H1 locs1 ht hvm hw hB hz hk hS1 => ?_)
  subst hw
  rw [ht] at hB
  exact kk H1 locs1 ls hB hS1 hl
theorem j_callSv (X : CX p R s m args c cc nL own Ts D tys N ad) {y : MethodName} {bytes : ByteArray} {maxL n index : Nat} {ret : Option FieldType} {ws : List Cond} {rm : Room} {w1 : Wd} {st0 : List Value} (As : List Value) (hM : Met l y ws rm (va_Pc As (PW D tys N ad cell w)) (QWv D N ad cell w1) 0 0 (AW N ad)) (cw : CallB R s args own index y bytes maxL ret ws rm 0 0 n ∧ (Cond.static y).before args s = true) (hst : st0 = As.reverse ++ st) (hn : As.length = n) (hst8 : (st.map fun v => v.category).sum ≤ 8) (d : decode cc pc = .ok (.invokestatic index, 3)) (kk : WJ p l e R s m args below meth c Q nL D N ad cell w1 (pc + 3) lv st) : WJ p l e R s m args below meth c Q nL D N ad cell w pc lv st0 := by
  subst hst
  intro H locs ls hP hS hl
  refine va_callv (va_runS (As := As) (rest := st) ⟨X.1, X.2.1, X.2.2.1, X.2.2.2.1, X.2.2.2.2.1⟩ hM cw ⟨va_blind, fun U hU hW => ⟨rfl, by show va_P _ _ _ U.heap; rw [hU]; exact hP, va_K.moved hW.alike X.2.2.2.2.2.1, NW.warm hW X.2.2.2.2.2.2.1⟩⟩ rfl hn hl.1.1 rfl (lv_room hst8) d ⟨Nat.zero_le _, Nat.zero_le _⟩) hS (fun q _ h => h) (fun q h => h) (fun u t H1 locs1 ht hvm hw hB hz hk hS1 => ?_)
  rw [ht] at hB
  exact kk H1 locs1 ls hB hS1 hl
theorem j_callSNi (X : CX p R s m args c cc nL own Ts D tys N ad) {y : MethodName} {bytes : ByteArray} {maxL n index : Nat} {ret : Option FieldType} {ws : List Cond} {rm : Room} {C : String} {w1 : Wd} {st0 : List Value} {r : Int32} (As : List Value) (hM : Met l y ws rm (va_Pc As (PW D tys N ad cell w)) (QWi D N ad cell r w1) 0 0 (AW N ad)) (cw : va_CN R s args own index y C bytes maxL ret ws rm 0 0 n ∧ (Cond.static y).before args s = true ∧ True) (hst : st0 = As.reverse ++ st) (hn : As.length = n) (hst8 : (st.map fun v => v.category).sum ≤ 8) (d : decode cc pc = .ok (.invokestatic index, 3)) (kk : WJ p l e R s m args below meth c Q nL D N ad cell w1 (pc + 3) lv (.int r :: st)) : WJ p l e R s m args below meth c Q nL D N ad cell w pc lv st0 := by
  subst hst
  intro H locs ls hP hS hl
  refine va_calli (va_runSN (As := As) (rest := st) ⟨X.1, X.2.1, X.2.2.1, X.2.2.2.1, X.2.2.2.2.1⟩ hM cw ⟨va_blind, fun U hU hW => ⟨rfl, by show va_P _ _ _ U.heap; rw [hU]; exact hP, va_K.moved hW.alike X.2.2.2.2.2.1, NW.warm hW X.2.2.2.2.2.2.1⟩⟩ rfl hn hl.1.1 rfl (lv_room hst8) d ⟨Nat.zero_le _, Nat.zero_le _⟩) hS (fun q _ h => h) (fun q h => h) (fun r2 u t H1 locs1 ht hvm hw hB hz hk hS1 => ?_)
  subst hw
  rw [ht] at hB
  exact kk H1 locs1 ls hB hS1 hl
theorem j_callSNv (X : CX p R s m args c cc nL own Ts D tys N ad) {y : MethodName} {bytes : ByteArray} {maxL n index : Nat} {ret : Option FieldType} {ws : List Cond} {rm : Room} {C : String} {w1 : Wd} {st0 : List Value} (As : List Value) (hM : Met l y ws rm (va_Pc As (PW D tys N ad cell w)) (QWv D N ad cell w1) 0 0 (AW N ad)) (cw : va_CN R s args own index y C bytes maxL ret ws rm 0 0 n ∧ (Cond.static y).before args s = true ∧ True) (hst : st0 = As.reverse ++ st) (hn : As.length = n) (hst8 : (st.map fun v => v.category).sum ≤ 8) (d : decode cc pc = .ok (.invokestatic index, 3)) (kk : WJ p l e R s m args below meth c Q nL D N ad cell w1 (pc + 3) lv st) : WJ p l e R s m args below meth c Q nL D N ad cell w pc lv st0 := by
  subst hst
  intro H locs ls hP hS hl
  refine va_callv (va_runSN (As := As) (rest := st) ⟨X.1, X.2.1, X.2.2.1, X.2.2.2.1, X.2.2.2.2.1⟩ hM cw ⟨va_blind, fun U hU hW => ⟨rfl, by show va_P _ _ _ U.heap; rw [hU]; exact hP, va_K.moved hW.alike X.2.2.2.2.2.1, NW.warm hW X.2.2.2.2.2.2.1⟩⟩ rfl hn hl.1.1 rfl (lv_room hst8) d ⟨Nat.zero_le _, Nat.zero_le _⟩) hS (fun q _ h => h) (fun q h => h) (fun u t H1 locs1 ht hvm hw hB hz hk hS1 => ?_)
  rw [ht] at hB
  exact kk H1 locs1 ls hB hS1 hl
end WJR
section WJE
variable {p : Program} {l : Launch} {e : Env} {R : Room} {s : State} {m : MethodId} {args : Array Value} {below : List Frame} {meth : Method} {c : Code} {nL : Nat} {D : va_G} {N : Nat} {ad : Nat → Nat} {cell : Nat → (Nat → Int32) → va_E} {w : Wd} {pc : Nat} {lv : List (Nat × Value)} {cc : ByteArray} {own : String} {Ts : List Cond} {tys : List (ClassId × FieldType)}
theorem W.zretN {H : Heap} {locs : List Loc} {cells slots : Nat} {Qc : Array Value → State → Outcome → State → Prop} {free : Addr → Prop} {v v' : Int32} {ty : FieldType} (hexec : p.tables.exec = Jvm.exec) (hb : c.code = cc) (hr : meth.sig.returnType = some ty) (hn : narrow ty (.int v) = .int v')
    (hq : ∀ t : State, t.heap = H → s.WarmedH t.vm → Qc args s (.returned (some (.int v'))) t) (hf : ∀ q ∈ locs, free q.base)
    {ls : Array Slot} (hdg : decode cc pc = .ok (.ireturn, 1)) (hlocks : meth.locks = false) : W p l e R s m args below meth c H locs cells slots (MQ below Qc args s cells slots free) (F0 m pc ls [.int v]) := by
  intro T hT X
  obtain ⟨fs, hret, hrun, hended, hW, hframe⟩ := X.leave (v := some (.int v')) (fun h => by rw [hr] at h; cases h)
  have hmeth' : T.vm.method? m = some meth := X.method'
  refine ⟨T.setFrames fs, ?_, .returned (some (.int v')), hrun, hended, hq _ hT hW, locs, ⟨⟨_, rfl⟩, hW, hframe⟩, hf⟩
  jvm_step X.here [X.here.top, hexec, hb, hdg, hmeth', hr, hn]
  (try refine ⟨rfl, ?_⟩); (try refine ⟨rfl, ?_⟩)
  first | (intro acts; rw [hret _ acts rfl rfl rfl]) | rw [hret _ _ rfl rfl rfl]
  exact Steps.refl _
/-- a method's own end -/
def RX (meth : Method) (ret : Option FieldType) : Prop := meth.sig.returnType = ret ∧ meth.locks = false
theorem j_iret (X : CX p R s m args c cc nL own Ts D tys N ad) (Y : RX meth (some .int)) {v r : Int32} {w1 : Wd} (hv : v = r) (hw : w = w1) (d : decode cc pc = .ok (.ireturn, 1)) : WJ p l e R s m args below meth c (MQ below (QWi D N ad cell r w1) args s 0 0 (AW N ad)) nL D N ad cell w pc lv [.int v] := by
  intro H locs ls hP hS hl
  subst hv; subst hw
  exact W.zretN (ty := .int) X.1 X.2.1 Y.1 rfl (fun t ht hW => ⟨⟨v, (), rfl, rfl, (by show va_P _ _ _ t.heap; rw [ht]; exact hP)⟩, hS.F ht⟩) hS.2.2 d Y.2
theorem j_bret (X : CX p R s m args c cc nL own Ts D tys N ad) (Y : RX meth (some .boolean)) {v r : Int32} {w1 : Wd} (hv : v &&& 1 = r) (hw : w = w1) (d : decode cc pc = .ok (.ireturn, 1)) : WJ p l e R s m args below meth c (MQ below (QWi D N ad cell r w1) args s 0 0 (AW N ad)) nL D N ad cell w pc lv [.int v] := by
  intro H locs ls hP hS hl
  subst hv; subst hw
  exact W.zretN (ty := .boolean) X.1 X.2.1 Y.1 rfl (fun t ht hW => ⟨⟨v &&& 1, (), rfl, rfl, (by show va_P _ _ _ t.heap; rw [ht]; exact hP)⟩, hS.F ht⟩) hS.2.2 d Y.2
theorem j_vret (X : CX p R s m args c cc nL own Ts D tys N ad) (Y : RX meth none) {w1 : Wd} (hw : w = w1) (d : decode cc pc = .ok (.return_, 1)) : WJ p l e R s m args below meth c (MQ below (QWv D N ad cell w1) args s 0 0 (AW N ad)) nL D N ad cell w pc lv [] := by
  intro H locs ls hP hS hl
  subst hw
  exact W.vret X.1 X.2.1 Y.1 (fun t ht hW => ⟨⟨(), rfl, trivial, (by show va_P _ _ _ t.heap; rw [ht]; exact hP)⟩, hS.F ht⟩) hS.2.2 d Y.2
theorem j_aret (X : CX p R s m args c cc nL own Ts D tys N ad) {cn : String} (Y : RX meth (some (.object cn))) {k r : Nat} {w1 : Wd} (hv : k = r) (hw : w = w1) (d : decode cc pc = .ok (.areturn, 1)) : WJ p l e R s m args below meth c (MQ below (QWr D N ad cell r w1) args s 0 0 (AW N ad)) nL D N ad cell w pc lv [.ref (ad k)] := by
  intro H locs ls hP hS hl
  subst hv; subst hw
  exact W.aret X.1 X.2.1 Y.1 (Or.inl ⟨_, rfl⟩) (Or.inr ⟨_, rfl⟩) (fun t ht hW => ⟨⟨(), ad k, rfl, trivial, rfl, by rw [ht]; exact hP⟩, hS.F ht⟩) hS.2.2 d Y.2
theorem mk_met {y : MethodName} {ws ws' : List Cond} {rm : Room} {Qc : Array Value → State → Outcome → State → Prop} {maxL : Nat} {ret : Option FieldType} {av : List Value} {lv0 : List (Nat × Value)} (own : String) (hI : Inj N ad) (hy : plainName y.cls = true) (hw : ws = Cond.code y cc maxL ret :: ws') (ho : y.cls = own) (hlen : (lg_sl av).length ≤ maxL) (hlv : lv_args 0 av = lv0) (hcat : lv0.all (fun q => q.2.category == 1) = true)
    (body : ∀ (p : Program) (e : Env) (s : State) (m : MethodId) (args : Array Value) (below : List Frame) (meth : Method) (c : Code), CX p rm s m args c cc maxL own ws D tys N ad → RX meth ret → WJ p l e rm s m args below meth c (MQ below Qc args s 0 0 (AW N ad)) maxL D N ad cell w 0 lv0 []) : Met l y ws rm (va_Pc av (PW D tys N ad cell w)) Qc 0 0 (AW N ad) := by
  refine Met.ofW (cc := cc) (maxL := maxL) (ret := ret) hy hw ?_
  intro p e s m args below meth c s₁ B hml hv
  obtain ⟨rfl, hP, hK, hN⟩ := hv
  have hts := atoms_spec (ws := ws) B.pre
  have hown : s.vm.findClass own = some m.cls := by rw [← ho]; exact findClass_of_methodNamed B.named
  have hl := lv_entry av (n := maxL) hlen
  rw [lg_entry_eq]
  rw [hlv] at hl
  exact body p e s m _ below meth c ⟨B.exec, B.bytes, hml, hown, hts, hK, hN, hI⟩ ⟨B.returns, B.notSynchronized⟩ s.heap [] _ hP va_S.rf ⟨hl, fun q hq => by simpa using List.all_eq_true.mp hcat q hq⟩
theorem mk_metF {y : MethodName} {ws ws' : List Cond} {rm : Room} {Qc : Array Value → State → Outcome → State → Prop} {maxL : Nat} {ret : Option FieldType} {av : List Value} {lv0 : List (Nat × Value)} (own : String) (hI : Inj N ad) (hy : plainFor y = true) (hw : ws = Cond.code y cc maxL ret :: ws') (ho : y.cls = own) (hlen : (lg_sl av).length ≤ maxL) (hlv : lv_args 0 av = lv0) (hcat : lv0.all (fun q => q.2.category == 1) = true)
    (body : ∀ (p : Program) (e : Env) (s : State) (m : MethodId) (args : Array Value) (below : List Frame) (meth : Method) (c : Code), CX p rm s m args c cc maxL own ws D tys N ad → RX meth ret → WJ p l e rm s m args below meth c (MQ below Qc args s 0 0 (AW N ad)) maxL D N ad cell w 0 lv0 []) : Met l y ws rm (va_Pc av (PW D tys N ad cell w)) Qc 0 0 (AW N ad) := by
  refine va_MetF (cc := cc) (maxL := maxL) (ret := ret) hy hw ?_
  intro p e s m args below meth c s₁ B hml hv
  obtain ⟨rfl, hP, hK, hN⟩ := hv
  have hts := atoms_spec (ws := ws) B.pre
  have hown : s.vm.findClass own = some m.cls := by rw [← ho]; exact findClass_of_methodNamed B.named
  have hl := lv_entry av (n := maxL) hlen
  rw [lg_entry_eq]
  rw [hlv] at hl
  exact body p e s m _ below meth c ⟨B.exec, B.bytes, hml, hown, hts, hK, hN, hI⟩ ⟨B.returns, B.notSynchronized⟩ s.heap [] _ hP va_S.rf ⟨hl, fun q hq => by simpa using List.all_eq_true.mp hcat q hq⟩
end WJE
