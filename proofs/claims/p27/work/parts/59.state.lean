/-! ===== the constructor of State (written by wip/whole/tools/gen_state.py) ===== -/
abbrev qArr (cA : ClassId) (n : Nat) (f : Nat → Option Nat) : va_E := .inl (cA, n, .inr (.inr (.inr (.inr f))))
abbrev iArr (cI : ClassId) (n : Nat) : va_E := .inl (cI, n, .inl (fun _ => 0))
def LnAt (cI : ClassId) (n b : Nat) (ad : Nat → Nat) (E : Nat → va_E) : Prop := E b = .inr (2, [.ref (ad (b + 1)), .int 0]) ∧ E (b + 1) = iArr cI n
theorem LnAt.mv {cI : ClassId} {n b b1 : Nat} {ad ad1 : Nat → Nat} {E E1 : Nat → va_E} (h : LnAt cI n b ad E) (f : ∀ k, k < 2 → ad1 (b1 + k) = ad (b + k) ∧ E1 (b1 + k) = E (b + k)) : LnAt cI n b1 ad1 E1 := by
  have f0 := (f 0 (by omega)).2
  have f1 := f 1 (by omega)
  refine ⟨?_, f1.2.trans h.2⟩
  rw [f1.1]
  exact f0.trans h.1
section GJA
variable {p : Program} {l : Launch} {e : Env} {R : Room} {s : State} {m : MethodId} {args : Array Value} {below : List Frame} {meth : Method} {c : Code} {Q : State → Prop} {nL : Nat} {D : va_G} {A : Nat → Prop} {n9 : Nat} {ad : Nat → Nat} {E : Nat → va_E} {cells slots : Nat} {pc : Nat} {lv : List (Nat × Value)} {st : List Value} {cc : ByteArray} {own : String} {Ts : List Cond} {tys : List (ClassId × FieldType)}
theorem g_putFa (X : GX p s m args meth c cc nL own Ts D tys A) (hin2 : meth.name = "<init>") {ref C : String} {T : u_T} {NN ci index k a : Nat} {fs : List Value} {v : Value} {ty0 : Nat → FieldType} {ty : FieldType} (hk : k < n9) (ha : ad k = a) (he : E k = .inr (ci, fs)) (hin : ∀ w ∈ u_ws C T NN, w ∈ Ts) (hty : ∀ k, k < NN → parseFieldDescriptor (T k).2.2.1 = some (ty0 k)) (hnm : ∀ a, a < NN → ∀ b, b < NN → a ≠ b → (T a).2.1 ≠ (T b).2.1) (hc : vwCl[ci]? = some (C, T, NN)) (j : Nat) (hj : j < NN) (hl1 : Cond.fieldLink own index ref (T j).2.1 (T j).2.2.1 ∈ Ts) (hr : (T j).1 = ref) (hfin : (T j).2.2.2 = true) (hdecl : (T j).1 = own) (hd : ty0 j = ty) (hnar : narrow ty v = v) (hfit : fits ty v = true) (hlen : j < fs.length) (d : decode cc pc = .ok (.putfield index, 3)) (kk : GJ p l e R s m args below meth c Q nL D A n9 ad (va_up E k (.inr (ci, fs.set j v))) cells slots (pc + 3) lv st) : GJ p l e R s m args below meth c Q nL D A n9 ad E cells slots pc lv (v :: .ref a :: st) := by
  subst ha
  exact g_putF X hin2 hk he hin hty hnm hc j hj hl1 hr hfin hdecl hd hnar hfit hlen d kk
theorem g_geta (X : GX p s m args meth c cc nL own Ts D tys A) {ref C : String} {T : u_T} {NN ci index k a : Nat} {fs : List Value} {v : Value} (hk : k < n9) (ha : ad k = a) (he : E k = .inr (ci, fs)) (hin : ∀ w ∈ u_ws C T NN, w ∈ Ts) (hc : vwCl[ci]? = some (C, T, NN)) (j : Nat) (hj : j < NN) (hl1 : Cond.fieldLink own index ref (T j).2.1 (T j).2.2.1 ∈ Ts) (hr : (T j).1 = ref) (hv : fs[j]? = some v) (d : decode cc pc = .ok (.getfield index, 3)) (kk : GJ p l e R s m args below meth c Q nL D A n9 ad E cells slots (pc + 3) lv (v :: st)) : GJ p l e R s m args below meth c Q nL D A n9 ad E cells slots pc lv (.ref a :: st) := by
  subst ha
  exact g_get X hk he hin hc j hj hl1 hr hv d kk
theorem g_astqa (X : GX p s m args meth c cc nL own Ts D tys A) {cA : ClassId} {r : vw_C} {k kv n ci a av : Nat} {vs : List Value} {f : Nat → Option Nat} (t0 : Nat) (ht : tys[t0]? = some (cA, .object r.1)) (hk : k < n9) (ha : ad k = a) (he : E k = qArr cA n f) (hkv : kv < n9) (hav : ad kv = av) (hev : E kv = .inr (ci, vs)) (hc : vwCl[ci]? = some r) {i : Int32} (hin : ib i n) (d : decode cc pc = .ok (.aastore, 1)) (kk : GJ p l e R s m args below meth c Q nL D A n9 ad (va_up E k (qArr cA n (va_up f i.toNatClampNeg (some av)))) cells slots (pc + 1) lv st) : GJ p l e R s m args below meth c Q nL D A n9 ad E cells slots pc lv (.ref av :: .int i :: .ref a :: st) := by
  subst ha
  subst hav
  exact g_astq X t0 ht hk he hkv hev hc hin d kk
/-- a constructor called on the last cell, its cells behind the old ones -/
theorem g_callN (X : GX p s m args meth c cc nL own Ts D tys A) (hO : AO2 s) {y : MethodName} {bytes : ByteArray} {maxL n index n2 : Nat} {ws : List Cond} {rm : Room} {Post : WW3 → Prop} {mc ms ci h1 : Nat} {fs : List Value} (As : List Value) (hM : CT l y ws rm D tys ci fs As Post mc ms) (hn2 : ∀ u, Post u → u.1 = n2) (he : E n9 = .inr (ci, fs)) (ha : ad n9 = h1) (cw : CallB R s args own index y bytes maxL none ws rm mc ms n ∧ y.name = "<init>" ∧ (Cond.instanceMethod y).before args s = true) {st0 : List Value} (hst : st0 = As.reverse ++ .ref h1 :: st) (hn : As.length = n) (hst8 : (st.map fun v => v.category).sum ≤ 8) (hcl : cells + mc ≤ R.cells) (hsl : slots + ms ≤ R.slots) (d : decode cc pc = .ok (.invokespecial index, 3)) (kk : ∀ (ad1 : Nat → Nat) (E1 : Nat → va_E), (∀ k, k < n9 → ad1 k = ad k ∧ E1 k = E k) → (∃ u : WW3, Post u ∧ u.2.1 0 = h1 ∧ ∀ k, k < n2 → ad1 (n9 + k) = u.2.1 k ∧ E1 (n9 + k) = u.2.2 k) → GJ p l e R s m args below meth c Q nL D A (n9 + n2) ad1 E1 (cells + mc) (slots + ms) (pc + 3) lv st) : GJ p l e R s m args below meth c Q nL D A (n9 + 1) ad E cells slots pc lv st0 := by
  refine g_callI X hO As hM he ha cw hst hn hst8 hcl hsl d (fun u hu h1u => ?_)
  rw [hn2 u hu]
  refine kk _ _ (fun k hk => ⟨if_pos hk, if_pos hk⟩) ⟨u, hu, h1u, fun k hk => ⟨?_, ?_⟩⟩
  · show (if n9 + k < n9 then _ else _) = _
    rw [if_neg (by omega), Nat.add_sub_cancel_left]
  · show (if n9 + k < n9 then _ else _) = _
    rw [if_neg (by omega), Nat.add_sub_cancel_left]
theorem g_callLine {cI cL cS : ClassId} (X : GX p s m args meth c cc nL own Ts D (tC cI cL cS) A) (hO : AO2 s) {n q index : Nat} (hn : n ≤ 100) (he : E n9 = .inr (2, [.null, .int 0])) (ha : ad n9 = q) (cw : CallB R s args own index yX2_init cX2_init 2 none wsX2_init ({ frames := 2, cells := 1, slots := n, locals := 60 }) 1 n 1 ∧ yX2_init.name = "<init>" ∧ (Cond.instanceMethod yX2_init).before args s = true) (hst8 : (st.map fun v => v.category).sum ≤ 8) (hcl : cells + 1 ≤ R.cells) (hsl : slots + n ≤ R.slots) (d : decode cc pc = .ok (.invokespecial index, 3)) (kk : ∀ (ad1 : Nat → Nat) (E1 : Nat → va_E), (∀ k, k < n9 → ad1 k = ad k ∧ E1 k = E k) → ad1 n9 = q → LnAt cI n n9 ad1 E1 → GJ p l e R s m args below meth c Q nL D A (n9 + 2) ad1 E1 (cells + 1) (slots + n) (pc + 3) lv st) : GJ p l e R s m args below meth c Q nL D A (n9 + 1) ad E cells slots pc lv (.int (nI n) :: .ref q :: st) := by
  refine g_callN X hO (n2 := 2) [.int (nI n)] (k_Line_init l D cI cL cS hn) (fun u hu => hu.1) he ha cw rfl rfl hst8 hcl hsl d (fun ad1 E1 hk hu => ?_)
  obtain ⟨⟨n1, ad2, E2⟩, ⟨-, a2, b2⟩, hq, f⟩ := hu
  have f0 := f 0 (by omega)
  have f1 := f 1 (by omega)
  refine kk ad1 E1 hk (f0.1.trans hq) ⟨?_, f1.2.trans b2⟩
  rw [f1.1]
  exact f0.2.trans a2
end GJA
abbrev rm5 : Room := { frames := 3, cells := 58, slots := 1274, locals := 120 }
abbrev fS0 (ad : Nat → Nat) (b : Nat) : List Value := [.int 1, .int (nI 8), .int (nI 12), .int 0, .int 0, .int 0, .int 0, .ref (ad (b + 1)), .ref (ad (b + 2)), .ref (ad (b + 3)), .ref (ad (b + 4)), .ref (ad (b + 5)), .ref (ad (b + 6)), .ref (ad (b + 7)), .ref (ad (b + 8)), .ref (ad (b + 9))]
/-- a state from cell b on, the lines of the proxies below i -/
def StIn (cI cL : ClassId) (b i : Nat) (ad : Nat → Nat) (E : Nat → va_E) : Prop := E (b + 0) = .inr (5, fS0 ad b) ∧ E (b + 1) = iArr cI 8 ∧ E (b + 2) = iArr cI 4 ∧ E (b + 3) = iArr cI 4 ∧ E (b + 4) = iArr cI 32 ∧ E (b + 5) = iArr cI 384 ∧ (∃ f, E (b + 6) = qArr cL 8 f ∧ ∀ j, j < i → f j = some (ad (b + (11 + 6 * j)))) ∧ (∃ f, E (b + 7) = qArr cL 8 f ∧ ∀ j, j < i → f j = some (ad (b + (13 + 6 * j)))) ∧ (∃ f, E (b + 8) = qArr cL 8 f ∧ ∀ j, j < i → f j = some (ad (b + (15 + 6 * j)))) ∧ LnAt cI 0 (b + 9) ad E ∧ ∀ j, j < i → LnAt cI (if j = 0 then 96 else 13) (b + (11 + 6 * j)) ad E ∧ LnAt cI (if j = 0 then 0 else 12) (b + (13 + 6 * j)) ad E ∧ LnAt cI (if j = 0 then 0 else 12) (b + (15 + 6 * j)) ad E
theorem StIn.mv {cI cL : ClassId} {b b1 i : Nat} {ad ad1 : Nat → Nat} {E E1 : Nat → va_E} (h : StIn cI cL b i ad E) (f : ∀ k, k < 11 + 6 * i → ad1 (b1 + k) = ad (b + k) ∧ E1 (b1 + k) = E (b + k)) : StIn cI cL b1 i ad1 E1 := by
  obtain ⟨h0, h1, h2, h3, h4, h5, ⟨f6, h6, g6⟩, ⟨f7, h7, g7⟩, ⟨f8, h8, g8⟩, h9, hl⟩ := h
  have ln : ∀ {n k : Nat}, k + 1 < 11 + 6 * i → LnAt cI n (b + k) ad E → LnAt cI n (b1 + k) ad1 E1 := fun {n k} hk h => h.mv (fun z hz => by rw [Nat.add_assoc, Nat.add_assoc]; exact f _ (by omega))
  refine ⟨?_, (f 1 (by omega)).2.trans h1, (f 2 (by omega)).2.trans h2, (f 3 (by omega)).2.trans h3, (f 4 (by omega)).2.trans h4, (f 5 (by omega)).2.trans h5, ⟨f6, (f 6 (by omega)).2.trans h6, fun j hj => by rw [(f _ (by omega)).1]; exact g6 j hj⟩, ⟨f7, (f 7 (by omega)).2.trans h7, fun j hj => by rw [(f _ (by omega)).1]; exact g7 j hj⟩, ⟨f8, (f 8 (by omega)).2.trans h8, fun j hj => by rw [(f _ (by omega)).1]; exact g8 j hj⟩, ln (by omega) h9, fun j hj => ?_⟩
  · rw [(f 0 (by omega)).2, h0]
    show (.inr (5, fS0 ad b) : va_E) = .inr (5, fS0 ad1 b1)
    unfold fS0
    rw [(f 1 (by omega)).1, (f 2 (by omega)).1, (f 3 (by omega)).1, (f 4 (by omega)).1, (f 5 (by omega)).1, (f 6 (by omega)).1, (f 7 (by omega)).1, (f 8 (by omega)).1, (f 9 (by omega)).1]
  · obtain ⟨l1, l2, l3⟩ := hl j hj
    exact ⟨ln (by omega) l1, ln (by omega) l2, ln (by omega) l3⟩
/-- one proxy's lines more -/
theorem StIn.step {cI cL : ClassId} {i : Nat} {ad ad3 : Nat → Nat} {E E3 : Nat → va_E} (h : StIn cI cL 0 i ad E) (hA : ∀ k, k < 11 + 6 * i → ad3 k = ad k) (hE : ∀ k, k < 11 + 6 * i → k ≠ 6 → k ≠ 7 → k ≠ 8 → E3 k = E k) (q6 : ∀ f, E 6 = qArr cL 8 f → E3 6 = qArr cL 8 (va_up f i (some (ad3 (11 + 6 * i))))) (q7 : ∀ f, E 7 = qArr cL 8 f → E3 7 = qArr cL 8 (va_up f i (some (ad3 (11 + 6 * i + 2))))) (q8 : ∀ f, E 8 = qArr cL 8 f → E3 8 = qArr cL 8 (va_up f i (some (ad3 (11 + 6 * i + 4))))) (l1 : LnAt cI (if i = 0 then 96 else 13) (11 + 6 * i) ad3 E3) (l2 : LnAt cI (if i = 0 then 0 else 12) (11 + 6 * i + 2) ad3 E3) (l3 : LnAt cI (if i = 0 then 0 else 12) (11 + 6 * i + 4) ad3 E3) : StIn cI cL 0 (i + 1) ad3 E3 := by
  obtain ⟨h0, h1, h2, h3, h4, h5, ⟨f6, h6, g6⟩, ⟨f7, h7, g7⟩, ⟨f8, h8, g8⟩, h9, hl⟩ := h
  simp only [Nat.zero_add] at h0 h1 h2 h3 h4 h5 h6 h7 h8 h9 g6 g7 g8 hl
  have ln : ∀ {n k : Nat}, k + 1 < 11 + 6 * i → 9 ≤ k → LnAt cI n k ad E → LnAt cI n k ad3 E3 := fun {n k} hk hk9 h => h.mv (fun z hz => ⟨hA _ (by omega), hE _ (by omega) (by omega) (by omega) (by omega)⟩)
  unfold StIn
  simp only [Nat.zero_add]
  refine ⟨?_, (hE 1 (by omega) (by omega) (by omega) (by omega)).trans h1, (hE 2 (by omega) (by omega) (by omega) (by omega)).trans h2, (hE 3 (by omega) (by omega) (by omega) (by omega)).trans h3, (hE 4 (by omega) (by omega) (by omega) (by omega)).trans h4, (hE 5 (by omega) (by omega) (by omega) (by omega)).trans h5, ⟨_, q6 f6 h6, fun j hj => ?_⟩, ⟨_, q7 f7 h7, fun j hj => ?_⟩, ⟨_, q8 f8 h8, fun j hj => ?_⟩, ln (by omega) (by omega) h9, fun j hj => ?_⟩
  · rw [hE 0 (by omega) (by omega) (by omega) (by omega), h0]
    unfold fS0
    simp only [Nat.zero_add]
    rw [hA 1 (by omega), hA 2 (by omega), hA 3 (by omega), hA 4 (by omega), hA 5 (by omega), hA 6 (by omega), hA 7 (by omega), hA 8 (by omega), hA 9 (by omega)]
  · by_cases g : j = i
    · subst g; rw [up_s]
    · rw [up_n g, hA _ (by omega)]; exact g6 j (by omega)
  · by_cases g : j = i
    · subst g; rw [up_s]; congr 2; omega
    · rw [up_n g, hA _ (by omega)]; exact g7 j (by omega)
  · by_cases g : j = i
    · subst g; rw [up_s]; congr 2; omega
    · rw [up_n g, hA _ (by omega)]; exact g8 j (by omega)
  · by_cases g : j = i
    · subst g
      refine ⟨l1, ?_, ?_⟩
      · rw [show 13 + 6 * j = 11 + 6 * j + 2 by omega]; exact l2
      · rw [show 15 + 6 * j = 11 + 6 * j + 4 by omega]; exact l3
    · obtain ⟨a1, a2, a3⟩ := hl j (by omega)
      exact ⟨ln (by omega) (by omega) a1, ln (by omega) (by omega) a2, ln (by omega) (by omega) a3⟩
section STC
variable {p : Program} {l : Launch} {e : Env} {s : State} {m : MethodId} {args : Array Value} {below : List Frame} {meth : Method} {c : Code} {Q : State → Prop} {D : va_G} {A : Nat → Prop} {n9 : Nat} {ad : Nat → Nat} {E : Nat → va_E} {cells slots : Nat} {cI cL cS : ClassId}
theorem St_blk0 (X : GX p s m args meth c cX5_init 2 RX5 wsX5_init D (tC cI cL cS) A) (hO : AO2 s) {h0 i n : Nat} {f : Nat → Option Nat} {fs : List Value} (hi : i < 8) (h9 : 9 ≤ n9) (had : ad 0 = h0) (hE0 : E 0 = .inr (5, fs)) (hfs : fs[12]? = some (.ref (ad 6))) (hq : E 6 = qArr cL 8 f) (hn : n = if i = 0 then 96 else 13) (hcl : cells + 2 ≤ 58) (hsl : slots + (2 + n) ≤ 1274) (kk : ∀ (ad1 : Nat → Nat) (E1 : Nat → va_E), (∀ k, k < n9 → ad1 k = ad k) → (∀ k, k < n9 → k ≠ 6 → E1 k = E k) → E1 6 = qArr cL 8 (va_up f i (some (ad1 n9))) → LnAt cI n n9 ad1 E1 → GJ p l e rm5 s m args below meth c Q 2 D A (n9 + 2) ad1 E1 (cells + 2) (slots + (2 + n)) 131 [(0, .ref h0), (1, .int (nI i))] []) : GJ p l e rm5 s m args below meth c Q 2 D A n9 ad E cells slots 107 [(0, .ref h0), (1, .int (nI i))] [] := by
  have hts := X.2.2.2.2.1
  have hnI : n ≤ 100 := by subst hn; split <;> omega
  refine g_aload_n X 0 dX5_init_107 rfl rfl ?_
  refine g_geta X (k := 0) (C := RX5) (T := TX5) (NN := 16) (ci := 5) (by omega) had hE0 (by decide +kernel) rfl 12 (by decide) (by decide +kernel) rfl hfs dX5_init_108 ?_
  refine g_iload_n X 1 dX5_init_111 rfl rfl ?_
  refine g_new X (C := RX2) (T := TX2) (N := 2) (ci := 2) (fs := [.null, .int 0]) (by decide +kernel) tyX2_ok (by decide +kernel) (by decide +kernel) (by decide +kernel) rfl (fun j hj => by rcases (show j = 0 ∨ j = 1 by omega) with rfl | rfl <;> rfl) (by show cells + 1 ≤ 58; omega) (by show slots + 2 ≤ 1274; omega) dX5_init_112 (fun q => ?_)
  refine g_dup X rfl dX5_init_115 ?_
  refine g_iload_n X 1 dX5_init_116 rfl rfl ?_
  have J : GJ p l e rm5 s m args below meth c Q 2 D A (n9 + 1) (va_up ad n9 q) (va_up E n9 (.inr (2, [.null, .int 0]))) (cells + 1) (slots + 2) 127 [(0, .ref h0), (1, .int (nI i))] [.int (nI n), .ref q, .ref q, .int (nI i), .ref (ad 6)] := by
    refine g_callLine X hO hnI (up_s _ _ _) (up_s _ _ _) (cwI 1 hts gX5_init_X2_init rfl rfl rfl (hts _ (by decide +kernel)) (hts _ (by decide +kernel)) (hts _ (by decide +kernel)) rfl (by decide +kernel) ⟨Nat.le_of_ble_eq_true rfl, Nat.le_of_ble_eq_true rfl⟩) (Nat.le_of_ble_eq_true rfl) (by show cells + 1 + 1 ≤ 58; omega) (by show slots + 2 + n ≤ 1274; omega) dX5_init_127 (fun ad1 E1 hk hq1 hL => ?_)
    have hA : ∀ k, k < n9 → ad1 k = ad k := fun k h => (hk k h).1.trans (up_n (by omega))
    have hE : ∀ k, k < n9 → E1 k = E k := fun k h => (hk k h).2.trans (up_n (by omega))
    refine g_astqa X (k := 6) (kv := n9) (f := f) 1 rfl (by omega) (hA 6 (by omega)) ((hE 6 (by omega)).trans hq) (by omega) hq1 hL.1 rfl (by rw [z_ib (by omega)]; exact hi) dX5_init_130 ?_
    refine g_widen (k := cells + 2) (n := slots + (2 + n)) (by omega) (by omega) ?_
    rw [nI_clamp (by omega), ← hq1]
    refine kk ad1 _ hA (fun k h hne => (up_n hne).trans (hE k h)) (up_s _ _ _) ⟨?_, ?_⟩
    · rw [up_n (by omega)]; exact hL.1
    · rw [up_n (by omega)]; exact hL.2
  by_cases hz : i = 0
  · subst hz
    rw [if_pos rfl] at hn
    subst hn
    refine g_if_ne X (tgt := 125) dX5_init_117 (by decide) (fun h => absurd rfl h) (fun _ => ?_)
    refine g_bipush X (v := nI 96) rfl dX5_init_120 ?_
    exact g_goto X (tgt := 127) dX5_init_122 (by decide) J
  · rw [if_neg hz] at hn
    subst hn
    refine g_if_ne X (tgt := 125) dX5_init_117 (by decide) (fun _ => ?_) (fun h => absurd ((z_eq0 (by omega)).mp h) hz)
    exact g_bipush X (v := nI 13) rfl dX5_init_125 J
theorem St_blk1 (X : GX p s m args meth c cX5_init 2 RX5 wsX5_init D (tC cI cL cS) A) (hO : AO2 s) {h0 i n : Nat} {f : Nat → Option Nat} {fs : List Value} (hi : i < 8) (h9 : 9 ≤ n9) (had : ad 0 = h0) (hE0 : E 0 = .inr (5, fs)) (hfs : fs[13]? = some (.ref (ad 7))) (hq : E 7 = qArr cL 8 f) (hn : n = if i = 0 then 0 else 12) (hcl : cells + 2 ≤ 58) (hsl : slots + (2 + n) ≤ 1274) (kk : ∀ (ad1 : Nat → Nat) (E1 : Nat → va_E), (∀ k, k < n9 → ad1 k = ad k) → (∀ k, k < n9 → k ≠ 7 → E1 k = E k) → E1 7 = qArr cL 8 (va_up f i (some (ad1 n9))) → LnAt cI n n9 ad1 E1 → GJ p l e rm5 s m args below meth c Q 2 D A (n9 + 2) ad1 E1 (cells + 2) (slots + (2 + n)) 154 [(0, .ref h0), (1, .int (nI i))] []) : GJ p l e rm5 s m args below meth c Q 2 D A n9 ad E cells slots 131 [(0, .ref h0), (1, .int (nI i))] [] := by
  have hts := X.2.2.2.2.1
  have hnI : n ≤ 100 := by subst hn; split <;> omega
  refine g_aload_n X 0 dX5_init_131 rfl rfl ?_
  refine g_geta X (k := 0) (C := RX5) (T := TX5) (NN := 16) (ci := 5) (by omega) had hE0 (by decide +kernel) rfl 13 (by decide) (by decide +kernel) rfl hfs dX5_init_132 ?_
  refine g_iload_n X 1 dX5_init_135 rfl rfl ?_
  refine g_new X (C := RX2) (T := TX2) (N := 2) (ci := 2) (fs := [.null, .int 0]) (by decide +kernel) tyX2_ok (by decide +kernel) (by decide +kernel) (by decide +kernel) rfl (fun j hj => by rcases (show j = 0 ∨ j = 1 by omega) with rfl | rfl <;> rfl) (by show cells + 1 ≤ 58; omega) (by show slots + 2 ≤ 1274; omega) dX5_init_136 (fun q => ?_)
  refine g_dup X rfl dX5_init_139 ?_
  refine g_iload_n X 1 dX5_init_140 rfl rfl ?_
  have J : GJ p l e rm5 s m args below meth c Q 2 D A (n9 + 1) (va_up ad n9 q) (va_up E n9 (.inr (2, [.null, .int 0]))) (cells + 1) (slots + 2) 150 [(0, .ref h0), (1, .int (nI i))] [.int (nI n), .ref q, .ref q, .int (nI i), .ref (ad 7)] := by
    refine g_callLine X hO hnI (up_s _ _ _) (up_s _ _ _) (cwI 1 hts gX5_init_X2_init rfl rfl rfl (hts _ (by decide +kernel)) (hts _ (by decide +kernel)) (hts _ (by decide +kernel)) rfl (by decide +kernel) ⟨Nat.le_of_ble_eq_true rfl, Nat.le_of_ble_eq_true rfl⟩) (Nat.le_of_ble_eq_true rfl) (by show cells + 1 + 1 ≤ 58; omega) (by show slots + 2 + n ≤ 1274; omega) dX5_init_150 (fun ad1 E1 hk hq1 hL => ?_)
    have hA : ∀ k, k < n9 → ad1 k = ad k := fun k h => (hk k h).1.trans (up_n (by omega))
    have hE : ∀ k, k < n9 → E1 k = E k := fun k h => (hk k h).2.trans (up_n (by omega))
    refine g_astqa X (k := 7) (kv := n9) (f := f) 1 rfl (by omega) (hA 7 (by omega)) ((hE 7 (by omega)).trans hq) (by omega) hq1 hL.1 rfl (by rw [z_ib (by omega)]; exact hi) dX5_init_153 ?_
    refine g_widen (k := cells + 2) (n := slots + (2 + n)) (by omega) (by omega) ?_
    rw [nI_clamp (by omega), ← hq1]
    refine kk ad1 _ hA (fun k h hne => (up_n hne).trans (hE k h)) (up_s _ _ _) ⟨?_, ?_⟩
    · rw [up_n (by omega)]; exact hL.1
    · rw [up_n (by omega)]; exact hL.2
  by_cases hz : i = 0
  · subst hz
    rw [if_pos rfl] at hn
    subst hn
    refine g_if_ne X (tgt := 148) dX5_init_141 (by decide) (fun h => absurd rfl h) (fun _ => ?_)
    refine g_iconst X (v := nI 0) rfl dX5_init_144 ?_
    exact g_goto X (tgt := 150) dX5_init_145 (by decide) J
  · rw [if_neg hz] at hn
    subst hn
    refine g_if_ne X (tgt := 148) dX5_init_141 (by decide) (fun _ => ?_) (fun h => absurd ((z_eq0 (by omega)).mp h) hz)
    exact g_bipush X (v := nI 12) rfl dX5_init_148 J
theorem St_blk2 (X : GX p s m args meth c cX5_init 2 RX5 wsX5_init D (tC cI cL cS) A) (hO : AO2 s) {h0 i n : Nat} {f : Nat → Option Nat} {fs : List Value} (hi : i < 8) (h9 : 9 ≤ n9) (had : ad 0 = h0) (hE0 : E 0 = .inr (5, fs)) (hfs : fs[14]? = some (.ref (ad 8))) (hq : E 8 = qArr cL 8 f) (hn : n = if i = 0 then 0 else 12) (hcl : cells + 2 ≤ 58) (hsl : slots + (2 + n) ≤ 1274) (kk : ∀ (ad1 : Nat → Nat) (E1 : Nat → va_E), (∀ k, k < n9 → ad1 k = ad k) → (∀ k, k < n9 → k ≠ 8 → E1 k = E k) → E1 8 = qArr cL 8 (va_up f i (some (ad1 n9))) → LnAt cI n n9 ad1 E1 → GJ p l e rm5 s m args below meth c Q 2 D A (n9 + 2) ad1 E1 (cells + 2) (slots + (2 + n)) 177 [(0, .ref h0), (1, .int (nI i))] []) : GJ p l e rm5 s m args below meth c Q 2 D A n9 ad E cells slots 154 [(0, .ref h0), (1, .int (nI i))] [] := by
  have hts := X.2.2.2.2.1
  have hnI : n ≤ 100 := by subst hn; split <;> omega
  refine g_aload_n X 0 dX5_init_154 rfl rfl ?_
  refine g_geta X (k := 0) (C := RX5) (T := TX5) (NN := 16) (ci := 5) (by omega) had hE0 (by decide +kernel) rfl 14 (by decide) (by decide +kernel) rfl hfs dX5_init_155 ?_
  refine g_iload_n X 1 dX5_init_158 rfl rfl ?_
  refine g_new X (C := RX2) (T := TX2) (N := 2) (ci := 2) (fs := [.null, .int 0]) (by decide +kernel) tyX2_ok (by decide +kernel) (by decide +kernel) (by decide +kernel) rfl (fun j hj => by rcases (show j = 0 ∨ j = 1 by omega) with rfl | rfl <;> rfl) (by show cells + 1 ≤ 58; omega) (by show slots + 2 ≤ 1274; omega) dX5_init_159 (fun q => ?_)
  refine g_dup X rfl dX5_init_162 ?_
  refine g_iload_n X 1 dX5_init_163 rfl rfl ?_
  have J : GJ p l e rm5 s m args below meth c Q 2 D A (n9 + 1) (va_up ad n9 q) (va_up E n9 (.inr (2, [.null, .int 0]))) (cells + 1) (slots + 2) 173 [(0, .ref h0), (1, .int (nI i))] [.int (nI n), .ref q, .ref q, .int (nI i), .ref (ad 8)] := by
    refine g_callLine X hO hnI (up_s _ _ _) (up_s _ _ _) (cwI 1 hts gX5_init_X2_init rfl rfl rfl (hts _ (by decide +kernel)) (hts _ (by decide +kernel)) (hts _ (by decide +kernel)) rfl (by decide +kernel) ⟨Nat.le_of_ble_eq_true rfl, Nat.le_of_ble_eq_true rfl⟩) (Nat.le_of_ble_eq_true rfl) (by show cells + 1 + 1 ≤ 58; omega) (by show slots + 2 + n ≤ 1274; omega) dX5_init_173 (fun ad1 E1 hk hq1 hL => ?_)
    have hA : ∀ k, k < n9 → ad1 k = ad k := fun k h => (hk k h).1.trans (up_n (by omega))
    have hE : ∀ k, k < n9 → E1 k = E k := fun k h => (hk k h).2.trans (up_n (by omega))
    refine g_astqa X (k := 8) (kv := n9) (f := f) 1 rfl (by omega) (hA 8 (by omega)) ((hE 8 (by omega)).trans hq) (by omega) hq1 hL.1 rfl (by rw [z_ib (by omega)]; exact hi) dX5_init_176 ?_
    refine g_widen (k := cells + 2) (n := slots + (2 + n)) (by omega) (by omega) ?_
    rw [nI_clamp (by omega), ← hq1]
    refine kk ad1 _ hA (fun k h hne => (up_n hne).trans (hE k h)) (up_s _ _ _) ⟨?_, ?_⟩
    · rw [up_n (by omega)]; exact hL.1
    · rw [up_n (by omega)]; exact hL.2
  by_cases hz : i = 0
  · subst hz
    rw [if_pos rfl] at hn
    subst hn
    refine g_if_ne X (tgt := 171) dX5_init_164 (by decide) (fun h => absurd rfl h) (fun _ => ?_)
    refine g_iconst X (v := nI 0) rfl dX5_init_167 ?_
    exact g_goto X (tgt := 173) dX5_init_168 (by decide) J
  · rw [if_neg hz] at hn
    subst hn
    refine g_if_ne X (tgt := 171) dX5_init_164 (by decide) (fun _ => ?_) (fun h => absurd ((z_eq0 (by omega)).mp h) hz)
    exact g_bipush X (v := nI 12) rfl dX5_init_171 J
theorem St_loop (X : GX p s m args meth c cX5_init 2 RX5 wsX5_init D (tC cI cL cS) A) (hO : AO2 s) {h0 : Nat} (Hend : ∀ (ad : Nat → Nat) (E : Nat → va_E), ad 0 = h0 → StIn cI cL 0 8 ad E → GJ p l e rm5 s m args below meth c Q 2 D A 59 ad E 58 1274 183 [(0, .ref h0), (1, .int (nI 8))] []) : ∀ (k i : Nat), i + k = 8 → ∀ (ad : Nat → Nat) (E : Nat → va_E), ad 0 = h0 → StIn cI cL 0 i ad E → GJ p l e rm5 s m args below meth c Q 2 D A (11 + 6 * i) ad E (10 + 6 * i) (458 + 102 * i) 101 [(0, .ref h0), (1, .int (nI i))] [] := by
  intro k
  induction k with
  | zero =>
    intro i hik ad E had hS
    obtain rfl : i = 8 := by omega
    refine g_iload_n X 1 dX5_init_101 rfl rfl ?_
    refine g_bipush X (v := nI 8) rfl dX5_init_102 ?_
    exact g_icmp_ge X (tgt := 183) dX5_init_104 (by decide) (fun _ => Hend ad E had hS) (fun h => absurd (by rw [z_le (by omega) (by omega)]; exact Nat.le_refl 8) h)
  | succ k ih =>
    intro i hik ad E had hS
    refine g_iload_n X 1 dX5_init_101 rfl rfl ?_
    refine g_bipush X (v := nI 8) rfl dX5_init_102 ?_
    refine g_icmp_ge X (tgt := 183) dX5_init_104 (by decide) (fun h => absurd h (by rw [z_le (by omega) (by omega)]; omega)) (fun _ => ?_)
    obtain ⟨h0', h1, h2, h3, h4, h5, ⟨f6, h6, g6⟩, ⟨f7, h7, g7⟩, ⟨f8, h8, g8⟩, h9, hl⟩ := id hS
    obtain ⟨n1, hn1⟩ : ∃ n : Nat, n = if i = 0 then 96 else 13 := ⟨_, rfl⟩
    obtain ⟨n2, hn2⟩ : ∃ n : Nat, n = if i = 0 then 0 else 12 := ⟨_, rfl⟩
    have hsum : n1 + n2 + n2 ≤ 96 := by
      rw [hn1, hn2]
      split <;> omega
    refine St_blk0 X hO (n := n1) (f := f6) (by omega) (by omega) had h0' (by rfl) h6 hn1 (by omega) (by omega) (fun ad1 E1 a1 b1 c1 d1 => ?_)
    refine St_blk1 X hO (n := n2) (f := f7) (by omega) (by omega) ((a1 0 (by omega)).trans had) ((b1 0 (by omega) (by omega)).trans h0') (by rw [a1 7 (by omega)]; rfl) ((b1 7 (by omega) (by omega)).trans h7) hn2 (by omega) (by omega) (fun ad2 E2 a2 b2 c2 d2 => ?_)
    refine St_blk2 X hO (n := n2) (f := f8) (by omega) (by omega) ((a2 0 (by omega)).trans ((a1 0 (by omega)).trans had)) ((b2 0 (by omega) (by omega)).trans ((b1 0 (by omega) (by omega)).trans h0')) (by rw [a2 8 (by omega), a1 8 (by omega)]; rfl) ((b2 8 (by omega) (by omega)).trans ((b1 8 (by omega) (by omega)).trans h8)) hn2 (by omega) (by omega) (fun ad3 E3 a3 b3 c3 d3 => ?_)
    refine g_iinc X (v := nI (i + 1)) 1 dX5_init_177 rfl (nI_1 i) (by decide) rfl ?_
    refine g_goto X (tgt := 101) dX5_init_180 (by decide) ?_
    refine g_widen (k := 10 + 6 * (i + 1)) (n := 458 + 102 * (i + 1)) (by omega) (by omega) ?_
    have e9 : 11 + 6 * i + 2 + 2 + 2 = 11 + 6 * (i + 1) := by omega
    rw [e9]
    have A3 : ∀ k, k < 11 + 6 * i → ad3 k = ad k := fun k h => (a3 k (by omega)).trans ((a2 k (by omega)).trans (a1 k h))
    refine ih (i + 1) (by omega) ad3 E3 ((A3 0 (by omega)).trans had) (hS.step A3 (fun k h n6 n7 n8 => (b3 k (by omega) n8).trans ((b2 k (by omega) n7).trans (b1 k h n6))) (fun f hf => ?_) (fun f hf => ?_) (fun f hf => ?_) ?_ ?_ ?_)
    · have e : f6 = f := by
        have := h6.symm.trans hf
        simpa using this
      rw [b3 6 (by omega) (by omega), b2 6 (by omega) (by omega), c1, a3 _ (by omega), a2 _ (by omega), e]
    · have e : f7 = f := by
        have := h7.symm.trans hf
        simpa using this
      rw [b3 7 (by omega) (by omega), c2, a3 _ (by omega), e]
    · have e : f8 = f := by
        have := h8.symm.trans hf
        simpa using this
      rw [c3, e]
    · rw [← hn1]
      exact d1.mv (fun z hz => ⟨(a3 _ (by omega)).trans (a2 _ (by omega)), (b3 _ (by omega) (by omega)).trans (b2 _ (by omega) (by omega))⟩)
    · rw [← hn2]
      exact d2.mv (fun z hz => ⟨a3 _ (by omega), b3 _ (by omega) (by omega)⟩)
    · rw [← hn2]
      exact d3
end STC
def PState (cI cL : ClassId) : WW3 → Prop := fun u => u.1 = 59 ∧ StIn cI cL 0 8 u.2.1 u.2.2
abbrev fsS : List Value := [.int 0, .int 0, .int 0, .int 0, .int 0, .int 0, .int 0, .null, .null, .null, .null, .null, .null, .null, .null, .null]
theorem k_State_init (l : Launch) (D : va_G) (cI cL cS : ClassId) : CT l yX5_init wsX5_init rm5 D (tC cI cL cS) 5 fsS [] (PState cI cL) 58 1274 := by
  refine mk_ctor (cc := cX5_init) (own := RX5) (maxL := 2) (fun h0 => [(0, .ref h0)]) (by decide) rfl rfl rfl (fun _ => Nat.le_of_ble_eq_true rfl) (fun _ => rfl) (fun _ => rfl) ?_
  intro h0 p e s m args below meth c X hr hin hO
  have hts := X.2.2.2.2.1
  refine g_aload_n X 0 dX5_init_0 rfl rfl ?_
  refine g_objInit X (by decide +kernel) (by decide +kernel) (by decide +kernel) (Nat.le_of_ble_eq_true rfl) (Nat.le_of_ble_eq_true rfl) dX5_init_1 ?_
  refine g_aload_n X 0 dX5_init_4 rfl rfl ?_
  refine g_iconst X (v := 1) rfl dX5_init_5 ?_
  refine g_put X (k := 0) (fs := [.int 0, .int 0, .int 0, .int 0, .int 0, .int 0, .int 0, .null, .null, .null, .null, .null, .null, .null, .null, .null]) (ci := 5) (C := RX5) (T := TX5) (NN := 16) (by omega) rfl (by decide +kernel) tyX5_ok nmX5 rfl 0 (by decide) (by decide +kernel) rfl rfl rfl rfl rfl (Nat.le_of_ble_eq_true rfl) dX5_init_6 ?_
  refine g_aload_n X 0 dX5_init_9 rfl rfl ?_
  refine g_bipush X (v := nI 8) rfl dX5_init_10 ?_
  refine g_put X (k := 0) (fs := [.int 1, .int 0, .int 0, .int 0, .int 0, .int 0, .int 0, .null, .null, .null, .null, .null, .null, .null, .null, .null]) (ci := 5) (C := RX5) (T := TX5) (NN := 16) (by omega) rfl (by decide +kernel) tyX5_ok nmX5 rfl 1 (by decide) (by decide +kernel) rfl rfl rfl rfl rfl (Nat.le_of_ble_eq_true rfl) dX5_init_12 ?_
  refine g_aload_n X 0 dX5_init_15 rfl rfl ?_
  refine g_bipush X (v := nI 12) rfl dX5_init_16 ?_
  refine g_put X (k := 0) (fs := [.int 1, .int (nI 8), .int 0, .int 0, .int 0, .int 0, .int 0, .null, .null, .null, .null, .null, .null, .null, .null, .null]) (ci := 5) (C := RX5) (T := TX5) (NN := 16) (by omega) rfl (by decide +kernel) tyX5_ok nmX5 rfl 2 (by decide) (by decide +kernel) rfl rfl rfl rfl rfl (Nat.le_of_ble_eq_true rfl) dX5_init_18 ?_
  refine g_aload_n X 0 dX5_init_21 rfl rfl ?_
  refine g_bipush X (v := nI 8) rfl dX5_init_22 ?_
  refine g_newi X (cI := cI) (N' := 8) 0 rfl (by decide +kernel) (nI_pos (by omega)) (nI_clamp (by omega)) (by omega) (Nat.le_of_ble_eq_true rfl) (Nat.le_of_ble_eq_true rfl) dX5_init_24 (fun q1 => ?_)
  refine g_putF X hin (k := 0) (fs := [.int 1, .int (nI 8), .int (nI 12), .int 0, .int 0, .int 0, .int 0, .null, .null, .null, .null, .null, .null, .null, .null, .null]) (ci := 5) (C := RX5) (T := TX5) (NN := 16) (by omega) rfl (by decide +kernel) tyX5_ok nmX5 rfl 7 (by decide) (by decide +kernel) rfl rfl rfl rfl rfl rfl (Nat.le_of_ble_eq_true rfl) dX5_init_26 ?_
  refine g_aload_n X 0 dX5_init_29 rfl rfl ?_
  refine g_iconst X (v := nI 4) rfl dX5_init_30 ?_
  refine g_newi X (cI := cI) (N' := 4) 0 rfl (by decide +kernel) (nI_pos (by omega)) (nI_clamp (by omega)) (by omega) (Nat.le_of_ble_eq_true rfl) (Nat.le_of_ble_eq_true rfl) dX5_init_31 (fun q2 => ?_)
  refine g_putF X hin (k := 0) (fs := [.int 1, .int (nI 8), .int (nI 12), .int 0, .int 0, .int 0, .int 0, .ref q1, .null, .null, .null, .null, .null, .null, .null, .null]) (ci := 5) (C := RX5) (T := TX5) (NN := 16) (by omega) rfl (by decide +kernel) tyX5_ok nmX5 rfl 8 (by decide) (by decide +kernel) rfl rfl rfl rfl rfl rfl (Nat.le_of_ble_eq_true rfl) dX5_init_33 ?_
  refine g_aload_n X 0 dX5_init_36 rfl rfl ?_
  refine g_iconst X (v := nI 4) rfl dX5_init_37 ?_
  refine g_newi X (cI := cI) (N' := 4) 0 rfl (by decide +kernel) (nI_pos (by omega)) (nI_clamp (by omega)) (by omega) (Nat.le_of_ble_eq_true rfl) (Nat.le_of_ble_eq_true rfl) dX5_init_38 (fun q3 => ?_)
  refine g_putF X hin (k := 0) (fs := [.int 1, .int (nI 8), .int (nI 12), .int 0, .int 0, .int 0, .int 0, .ref q1, .ref q2, .null, .null, .null, .null, .null, .null, .null]) (ci := 5) (C := RX5) (T := TX5) (NN := 16) (by omega) rfl (by decide +kernel) tyX5_ok nmX5 rfl 9 (by decide) (by decide +kernel) rfl rfl rfl rfl rfl rfl (Nat.le_of_ble_eq_true rfl) dX5_init_40 ?_
  refine g_aload_n X 0 dX5_init_43 rfl rfl ?_
  refine g_bipush X (v := nI 32) rfl dX5_init_44 ?_
  refine g_newi X (cI := cI) (N' := 32) 0 rfl (by decide +kernel) (nI_pos (by omega)) (nI_clamp (by omega)) (by omega) (Nat.le_of_ble_eq_true rfl) (Nat.le_of_ble_eq_true rfl) dX5_init_46 (fun q4 => ?_)
  refine g_putF X hin (k := 0) (fs := [.int 1, .int (nI 8), .int (nI 12), .int 0, .int 0, .int 0, .int 0, .ref q1, .ref q2, .ref q3, .null, .null, .null, .null, .null, .null]) (ci := 5) (C := RX5) (T := TX5) (NN := 16) (by omega) rfl (by decide +kernel) tyX5_ok nmX5 rfl 10 (by decide) (by decide +kernel) rfl rfl rfl rfl rfl rfl (Nat.le_of_ble_eq_true rfl) dX5_init_48 ?_
  refine g_aload_n X 0 dX5_init_51 rfl rfl ?_
  refine g_sipush X (v := nI 384) rfl dX5_init_52 ?_
  refine g_newi X (cI := cI) (N' := 384) 0 rfl (by decide +kernel) (nI_pos (by omega)) (nI_clamp (by omega)) (by omega) (Nat.le_of_ble_eq_true rfl) (Nat.le_of_ble_eq_true rfl) dX5_init_55 (fun q5 => ?_)
  refine g_putF X hin (k := 0) (fs := [.int 1, .int (nI 8), .int (nI 12), .int 0, .int 0, .int 0, .int 0, .ref q1, .ref q2, .ref q3, .ref q4, .null, .null, .null, .null, .null]) (ci := 5) (C := RX5) (T := TX5) (NN := 16) (by omega) rfl (by decide +kernel) tyX5_ok nmX5 rfl 11 (by decide) (by decide +kernel) rfl rfl rfl rfl rfl rfl (Nat.le_of_ble_eq_true rfl) dX5_init_57 ?_
  refine g_aload_n X 0 dX5_init_60 rfl rfl ?_
  refine g_bipush X (v := nI 8) rfl dX5_init_61 ?_
  refine g_newq X (cA := cL) (C := "ProxyVersions$Line") (N' := 8) 1 rfl (by decide +kernel) hO.1 (nI_pos (by omega)) (nI_clamp (by omega)) (by omega) (Nat.le_of_ble_eq_true rfl) (Nat.le_of_ble_eq_true rfl) dX5_init_63 (fun q6 => ?_)
  refine g_putF X hin (k := 0) (fs := [.int 1, .int (nI 8), .int (nI 12), .int 0, .int 0, .int 0, .int 0, .ref q1, .ref q2, .ref q3, .ref q4, .ref q5, .null, .null, .null, .null]) (ci := 5) (C := RX5) (T := TX5) (NN := 16) (by omega) rfl (by decide +kernel) tyX5_ok nmX5 rfl 12 (by decide) (by decide +kernel) rfl rfl rfl rfl rfl rfl (Nat.le_of_ble_eq_true rfl) dX5_init_66 ?_
  refine g_aload_n X 0 dX5_init_69 rfl rfl ?_
  refine g_bipush X (v := nI 8) rfl dX5_init_70 ?_
  refine g_newq X (cA := cL) (C := "ProxyVersions$Line") (N' := 8) 1 rfl (by decide +kernel) hO.1 (nI_pos (by omega)) (nI_clamp (by omega)) (by omega) (Nat.le_of_ble_eq_true rfl) (Nat.le_of_ble_eq_true rfl) dX5_init_72 (fun q7 => ?_)
  refine g_putF X hin (k := 0) (fs := [.int 1, .int (nI 8), .int (nI 12), .int 0, .int 0, .int 0, .int 0, .ref q1, .ref q2, .ref q3, .ref q4, .ref q5, .ref q6, .null, .null, .null]) (ci := 5) (C := RX5) (T := TX5) (NN := 16) (by omega) rfl (by decide +kernel) tyX5_ok nmX5 rfl 13 (by decide) (by decide +kernel) rfl rfl rfl rfl rfl rfl (Nat.le_of_ble_eq_true rfl) dX5_init_75 ?_
  refine g_aload_n X 0 dX5_init_78 rfl rfl ?_
  refine g_bipush X (v := nI 8) rfl dX5_init_79 ?_
  refine g_newq X (cA := cL) (C := "ProxyVersions$Line") (N' := 8) 1 rfl (by decide +kernel) hO.1 (nI_pos (by omega)) (nI_clamp (by omega)) (by omega) (Nat.le_of_ble_eq_true rfl) (Nat.le_of_ble_eq_true rfl) dX5_init_81 (fun q8 => ?_)
  refine g_putF X hin (k := 0) (fs := [.int 1, .int (nI 8), .int (nI 12), .int 0, .int 0, .int 0, .int 0, .ref q1, .ref q2, .ref q3, .ref q4, .ref q5, .ref q6, .ref q7, .null, .null]) (ci := 5) (C := RX5) (T := TX5) (NN := 16) (by omega) rfl (by decide +kernel) tyX5_ok nmX5 rfl 14 (by decide) (by decide +kernel) rfl rfl rfl rfl rfl rfl (Nat.le_of_ble_eq_true rfl) dX5_init_84 ?_
  refine g_aload_n X 0 dX5_init_87 rfl rfl ?_
  refine g_new X (C := RX2) (T := TX2) (N := 2) (ci := 2) (fs := [.null, .int 0]) (by decide +kernel) tyX2_ok (by decide +kernel) (by decide +kernel) (by decide +kernel) rfl (fun j hj => by rcases (show j = 0 ∨ j = 1 by omega) with rfl | rfl <;> rfl) (Nat.le_of_ble_eq_true rfl) (Nat.le_of_ble_eq_true rfl) dX5_init_88 (fun q9 => ?_)
  refine g_dup X rfl dX5_init_91 ?_
  refine g_iconst X (v := nI 0) rfl dX5_init_92 ?_
  refine g_callLine X hO (n := 0) (by omega) rfl rfl (cwI 1 hts gX5_init_X2_init rfl rfl rfl (hts _ (by decide +kernel)) (hts _ (by decide +kernel)) (hts _ (by decide +kernel)) rfl (by decide +kernel) ⟨Nat.le_of_ble_eq_true rfl, Nat.le_of_ble_eq_true rfl⟩) (Nat.le_of_ble_eq_true rfl) (Nat.le_of_ble_eq_true rfl) (Nat.le_of_ble_eq_true rfl) dX5_init_93 (fun ad1 E1 hk hq hL => ?_)
  have e0 : ad1 0 = h0 := (hk 0 (by omega)).1
  have e1 : ad1 1 = q1 := (hk 1 (by omega)).1
  have e2 : ad1 2 = q2 := (hk 2 (by omega)).1
  have e3 : ad1 3 = q3 := (hk 3 (by omega)).1
  have e4 : ad1 4 = q4 := (hk 4 (by omega)).1
  have e5 : ad1 5 = q5 := (hk 5 (by omega)).1
  have e6 : ad1 6 = q6 := (hk 6 (by omega)).1
  have e7 : ad1 7 = q7 := (hk 7 (by omega)).1
  have e8 : ad1 8 = q8 := (hk 8 (by omega)).1
  have e9 : ad1 9 = q9 := hq
  refine g_putFa X hin (k := 0) (a := h0) (fs := [.int 1, .int (nI 8), .int (nI 12), .int 0, .int 0, .int 0, .int 0, .ref q1, .ref q2, .ref q3, .ref q4, .ref q5, .ref q6, .ref q7, .ref q8, .null]) (ci := 5) (C := RX5) (T := TX5) (NN := 16) (by omega) e0 ((hk 0 (by omega)).2.trans rfl) (by decide +kernel) tyX5_ok nmX5 rfl 15 (by decide) (by decide +kernel) rfl rfl rfl rfl rfl rfl (Nat.le_of_ble_eq_true rfl) dX5_init_96 ?_
  refine g_iconst X (v := nI 0) rfl dX5_init_99 ?_
  refine g_istore_n X (lv' := [(0, .ref h0), (1, .int (nI 0))]) dX5_init_100 rfl (by decide) rfl ?_
  refine g_widen (k := 10) (n := 458) (Nat.le_of_ble_eq_true rfl) (Nat.le_of_ble_eq_true rfl) ?_
  refine St_loop X hO (fun ad E had hS => g_vret X hr ⟨rfl, hS⟩ had dX5_init_183) 8 0 rfl _ _ e0 ⟨?_, ?_, ?_, ?_, ?_, ?_, ⟨fun _ => none, ?_, fun j hj => by omega⟩, ⟨fun _ => none, ?_, fun j hj => by omega⟩, ⟨fun _ => none, ?_, fun j hj => by omega⟩, ⟨hL.1, hL.2⟩, fun j hj => by omega⟩
  · show (.inr (5, [.int 1, .int (nI 8), .int (nI 12), .int 0, .int 0, .int 0, .int 0, .ref q1, .ref q2, .ref q3, .ref q4, .ref q5, .ref q6, .ref q7, .ref q8, .ref q9]) : va_E) = .inr (5, fS0 ad1 0)
    unfold fS0
    simp only [Nat.zero_add]
    rw [e1, e2, e3, e4, e5, e6, e7, e8, e9]
  · exact (hk 1 (by omega)).2
  · exact (hk 2 (by omega)).2
  · exact (hk 3 (by omega)).2
  · exact (hk 4 (by omega)).2
  · exact (hk 5 (by omega)).2
  · exact (hk 6 (by omega)).2
  · exact (hk 7 (by omega)).2
  · exact (hk 8 (by omega)).2
