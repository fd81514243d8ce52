/-! ===== the constructors of History, ProxyVersions and the reference (written by wip/whole/tools/gen_pv.py) ===== -/
section GJB
variable {p : Program} {l : Launch} {e : Env} {R : Room} {s : State} {m : MethodId} {args : Array Value} {below : List Frame} {meth : Method} {c : Code} {Q : State → Prop} {nL : Nat} {D : va_G} {A : Nat → Prop} {n9 : Nat} {ad : Nat → Nat} {E : Nat → va_E} {cells slots : Nat} {pc : Nat} {lv : List (Nat × Value)} {st : List Value} {cc : ByteArray} {own : String} {Ts : List Cond} {tys : List (ClassId × FieldType)}
theorem g_putFk (X : GX p s m args meth c cc nL own Ts D tys A) (hin2 : meth.name = "<init>") {ref C : String} {T : u_T} {NN ci index k a : Nat} {fs fs1 : List Value} {v : Value} {ty0 : Nat → FieldType} {ty : FieldType} (hk : k < n9) (ha : ad k = a) (he : E k = .inr (ci, fs)) (hin : ∀ w ∈ u_ws C T NN, w ∈ Ts) (hty : ∀ k, k < NN → parseFieldDescriptor (T k).2.2.1 = some (ty0 k)) (hnm : ∀ a, a < NN → ∀ b, b < NN → a ≠ b → (T a).2.1 ≠ (T b).2.1) (hc : vwCl[ci]? = some (C, T, NN)) (j : Nat) (hj : j < NN) (hl1 : Cond.fieldLink own index ref (T j).2.1 (T j).2.2.1 ∈ Ts) (hr : (T j).1 = ref) (hfin : (T j).2.2.2 = true) (hdecl : (T j).1 = own) (hd : ty0 j = ty) (hnar : narrow ty v = v) (hfit : fits ty v = true) (hlen : j < fs.length) (hfs1 : fs.set j v = fs1) (d : decode cc pc = .ok (.putfield index, 3)) (kk : ∀ E1 : Nat → va_E, E1 k = .inr (ci, fs1) → (∀ z, z ≠ k → E1 z = E z) → GJ p l e R s m args below meth c Q nL D A n9 ad E1 cells slots (pc + 3) lv st) : GJ p l e R s m args below meth c Q nL D A n9 ad E cells slots pc lv (v :: .ref a :: st) := by
  refine g_putFa X hin2 hk ha he hin hty hnm hc j hj hl1 hr hfin hdecl hd hnar hfit hlen d ?_
  rw [hfs1]
  exact kk _ (up_s _ _ _) (fun z hz => up_n hz)
theorem g_callIN (X : GX p s m args meth c cc nL own Ts D tys A) (hO : AO2 s) {y : MethodName} {bytes : ByteArray} {maxL n index : Nat} {ws : List Cond} {rm : Room} {Post : WW3 → Prop} {mc ms ci h1 : Nat} {fs : List Value} (As : List Value) (hM : CT l y ws rm D tys ci fs As Post mc ms) (he : E n9 = .inr (ci, fs)) (ha : ad n9 = h1) {host : String} (cw : va_CN R s args own index y host bytes maxL none ws rm mc ms n ∧ y.name = "<init>" ∧ (Cond.instanceMethod y).before args s = true) {st0 : List Value} (hst : st0 = As.reverse ++ .ref h1 :: st) (hn : As.length = n) (hst8 : (st.map fun v => v.category).sum ≤ 8) (hcl : cells + mc ≤ R.cells) (hsl : slots + ms ≤ R.slots) (d : decode cc pc = .ok (.invokespecial index, 3)) (kk : ∀ (u : WW3), Post u → u.2.1 0 = h1 → GJ p l e R s m args below meth c Q nL D A (n9 + u.1) (adC n9 ad u.2.1) (EC n9 E u.2.2) (cells + mc) (slots + ms) (pc + 3) lv st) : GJ p l e R s m args below meth c Q nL D A (n9 + 1) ad E cells slots pc lv st0 := by
  subst hst
  intro H locs ls hP hD hS hl
  have hP1 : va_P D vwCl [(h1, .inr (ci, fs))] H := by
    intro k q hk
    have hk0 : k = 0 := by
      have := (List.getElem?_eq_some_iff.mp hk).1
      simp at this
      omega
    subst hk0
    cases hk
    have := hP n9 _ (GW_get (Nat.lt_succ_self _))
    rw [he, ha] at this
    exact this
  have hA1 : ∀ q, A1 h1 H.size q → A q := by
    rintro q (rfl | hq)
    · have := hD.2 n9 _ (GW_get (Nat.lt_succ_self _))
      rwa [ha] at this
    · exact X.2.2.2.2.2.2.1 q (Nat.le_trans hS.1 hq)
  refine va_callv (va_runIN (As := As) (rest := st) ⟨X.1, X.2.1, X.2.2.1, X.2.2.2.1, X.2.2.2.2.1⟩ (hM h1 H.size) cw ⟨blindC, fun U hU hW => ⟨rfl, by rw [hU], by rw [hU]; exact hP1, va_K.moved hW.alike X.2.2.2.2.2.1, AO2.warm hW hO⟩⟩ rfl hn hl.1.1 rfl (lv_room hst8) d ⟨hcl, hsl⟩) hS (fun q _ h => hA1 q h) hA1 (fun u t H1 locs1 ht hvm hw hB hz hk hS1 => ?_)
  obtain ⟨hB1, hB2⟩ := hB
  rw [ht] at hB1
  have old : ∀ k, k < n9 → ad k < H.size ∧ ad k ≠ h1 := by
    intro k hk9
    refine ⟨(hP k _ (GW_get (by omega))).lt, fun e1 => ?_⟩
    have := hD.1 k n9 _ _ (GW_get (by omega)) (GW_get (by omega)) (e1.trans ha.symm)
    omega
  refine kk u hw.1 hw.2 H1 locs1 ls ?_ ?_ hS1 hl
  · intro k q hkq
    obtain ⟨hlt, rfl⟩ := GW_of hkq
    unfold adC EC
    by_cases g : k < n9
    · rw [if_pos g, if_pos g]
      obtain ⟨o1, o2⟩ := old k g
      exact (hP k _ (GW_get (by omega))).kept (hk _ o1 (fun z => z.elim o2 (fun z => by omega)))
    · rw [if_neg g, if_neg g]
      exact hB1 (k - n9) _ (GW_get (by omega))
  · refine ⟨fun i j x y hx hy hxy => ?_, fun k q hkq => ?_⟩
    · obtain ⟨hi, rfl⟩ := GW_of hx
      obtain ⟨hj, rfl⟩ := GW_of hy
      unfold adC EC at hxy
      dsimp only at hxy
      have cal : ∀ k, k < u.1 → A1 h1 H.size (u.2.1 k) := fun k hk2 => hB2.2 k _ (GW_get hk2)
      by_cases g : i < n9
      · by_cases g2 : j < n9
        · rw [if_pos g, if_pos g2] at hxy
          exact hD.1 i j _ _ (GW_get (by omega)) (GW_get (by omega)) hxy
        · rw [if_pos g, if_neg g2] at hxy
          obtain ⟨o1, o2⟩ := old i g
          rw [hxy] at o1 o2
          exact absurd (cal (j - n9) (by omega)) (fun z => z.elim o2 (fun z => by omega))
      · by_cases g2 : j < n9
        · rw [if_neg g, if_pos g2] at hxy
          obtain ⟨o1, o2⟩ := old j g2
          rw [← hxy] at o1 o2
          exact absurd (cal (i - n9) (by omega)) (fun z => z.elim o2 (fun z => by omega))
        · rw [if_neg g, if_neg g2] at hxy
          have := hB2.1 (i - n9) (j - n9) _ _ (GW_get (by omega)) (GW_get (by omega)) hxy
          omega
    · obtain ⟨hlt, rfl⟩ := GW_of hkq
      show A (adC n9 ad u.2.1 k)
      unfold adC
      by_cases g : k < n9
      · rw [if_pos g]; exact hD.2 k (ad k, E k) (GW_get (by omega))
      · rw [if_neg g]; exact hA1 _ (hB2.2 (k - n9) (u.2.1 (k - n9), u.2.2 (k - n9)) (GW_get (by omega)))
theorem g_callNN (X : GX p s m args meth c cc nL own Ts D tys A) (hO : AO2 s) {y : MethodName} {bytes : ByteArray} {maxL n index n2 : Nat} {ws : List Cond} {rm : Room} {Post : WW3 → Prop} {mc ms ci h1 : Nat} {fs : List Value} (As : List Value) (hM : CT l y ws rm D tys ci fs As Post mc ms) (hn2 : ∀ u, Post u → u.1 = n2) (he : E n9 = .inr (ci, fs)) (ha : ad n9 = h1) {host : String} (cw : va_CN R s args own index y host bytes maxL none ws rm mc ms n ∧ y.name = "<init>" ∧ (Cond.instanceMethod y).before args s = true) {st0 : List Value} (hst : st0 = As.reverse ++ .ref h1 :: st) (hn : As.length = n) (hst8 : (st.map fun v => v.category).sum ≤ 8) (hcl : cells + mc ≤ R.cells) (hsl : slots + ms ≤ R.slots) (d : decode cc pc = .ok (.invokespecial index, 3)) (kk : ∀ (ad1 : Nat → Nat) (E1 : Nat → va_E), (∀ k, k < n9 → ad1 k = ad k ∧ E1 k = E k) → (∃ u : WW3, Post u ∧ u.2.1 0 = h1 ∧ ∀ k, k < n2 → ad1 (n9 + k) = u.2.1 k ∧ E1 (n9 + k) = u.2.2 k) → GJ p l e R s m args below meth c Q nL D A (n9 + n2) ad1 E1 (cells + mc) (slots + ms) (pc + 3) lv st) : GJ p l e R s m args below meth c Q nL D A (n9 + 1) ad E cells slots pc lv st0 := by
  refine g_callIN X hO As hM he ha cw hst hn hst8 hcl hsl d (fun u hu h1u => ?_)
  rw [hn2 u hu]
  refine kk _ _ (fun k hk => ⟨if_pos hk, if_pos hk⟩) ⟨u, hu, h1u, fun k hk => ⟨?_, ?_⟩⟩
  · show (if n9 + k < n9 then _ else _) = _
    rw [if_neg (by omega), Nat.add_sub_cancel_left]
  · show (if n9 + k < n9 then _ else _) = _
    rw [if_neg (by omega), Nat.add_sub_cancel_left]
end GJB
theorem dfX5 : ∀ j, j < 16 → defaultValue (tyX5 j) = vp_V fsS j := by
  intro j hj
  rcases (show j = 0 ∨ j = 1 ∨ j = 2 ∨ j = 3 ∨ j = 4 ∨ j = 5 ∨ j = 6 ∨ j = 7 ∨ j = 8 ∨ j = 9 ∨ j = 10 ∨ j = 11 ∨ j = 12 ∨ j = 13 ∨ j = 14 ∨ j = 15 by omega) with rfl | rfl | rfl | rfl | rfl | rfl | rfl | rfl | rfl | rfl | rfl | rfl | rfl | rfl | rfl | rfl <;> rfl
theorem df3 : ∀ j, j < 3 → j = 0 ∨ j = 1 ∨ j = 2 := by omega
abbrev rm1 : Room := { frames := 4, cells := 414, slots := 9037, locals := 180 }
/-- the history from cell b on, the states below i -/
def HIn (cI cL cS : ClassId) (b i : Nat) (ad : Nat → Nat) (E : Nat → va_E) : Prop := E (b + 0) = .inr (1, [.ref (ad (b + 1)), .int 0, .int 0]) ∧ (∃ f, E (b + 1) = qArr cS 7 f ∧ ∀ j, j < i → f j = some (ad (b + (2 + 59 * j)))) ∧ ∀ j, j < i → StIn cI cL (b + (2 + 59 * j)) 8 ad E
theorem HIn.mv {cI cL cS : ClassId} {b b1 i : Nat} {ad ad1 : Nat → Nat} {E E1 : Nat → va_E} (h : HIn cI cL cS b i ad E) (f : ∀ k, k < 2 + 59 * i → ad1 (b1 + k) = ad (b + k) ∧ E1 (b1 + k) = E (b + k)) : HIn cI cL cS b1 i ad1 E1 := by
  obtain ⟨h0, ⟨f1, h1, g1⟩, hl⟩ := h
  refine ⟨?_, ⟨f1, (f 1 (by omega)).2.trans h1, fun j hj => by rw [(f _ (by omega)).1]; exact g1 j hj⟩, fun j hj => ?_⟩
  · rw [(f 0 (by omega)).2, h0, (f 1 (by omega)).1]
  · exact (hl j hj).mv (fun k hk => by rw [Nat.add_assoc b1, Nat.add_assoc b]; exact f _ (by omega))
theorem HIn.step {cI cL cS : ClassId} {i : Nat} {ad ad1 : Nat → Nat} {E E1 : Nat → va_E} (h : HIn cI cL cS 0 i ad E) (hA : ∀ k, k < 2 + 59 * i → ad1 k = ad k) (hE : ∀ k, k < 2 + 59 * i → k ≠ 1 → E1 k = E k) (q1 : ∀ f, E 1 = qArr cS 7 f → E1 1 = qArr cS 7 (va_up f i (some (ad1 (2 + 59 * i))))) (l1 : StIn cI cL (2 + 59 * i) 8 ad1 E1) : HIn cI cL cS 0 (i + 1) ad1 E1 := by
  obtain ⟨h0, ⟨f1, h1, g1⟩, hl⟩ := h
  simp only [Nat.zero_add] at h0 h1 g1 hl
  unfold HIn
  simp only [Nat.zero_add]
  refine ⟨?_, ⟨_, q1 f1 h1, fun j hj => ?_⟩, fun j hj => ?_⟩
  · rw [hE 0 (by omega) (by omega), h0, hA 1 (by omega)]
  · by_cases g : j = i
    · subst g; rw [up_s]
    · rw [up_n g, hA _ (by omega)]; exact g1 j (by omega)
  · by_cases g : j = i
    · subst g; exact l1
    · exact (hl j (by omega)).mv (fun k hk => ⟨hA _ (by omega), hE _ (by omega) (by omega)⟩)
section HIC
variable {p : Program} {l : Launch} {e : Env} {s : State} {m : MethodId} {args : Array Value} {below : List Frame} {meth : Method} {c : Code} {Q : State → Prop} {D : va_G} {A : Nat → Prop} {cI cL cS : ClassId}
theorem Hi_loop (X : GX p s m args meth c cX1_init 2 RX1 wsX1_init D (tC cI cL cS) A) (hO : AO2 s) {h0 : Nat} (Hend : ∀ (ad : Nat → Nat) (E : Nat → va_E), ad 0 = h0 → HIn cI cL cS 0 7 ad E → GJ p l e rm1 s m args below meth c Q 2 D A 415 ad E 414 9037 40 [(0, .ref h0), (1, .int (nI 7))] []) : ∀ (k i : Nat), i + k = 7 → ∀ (ad : Nat → Nat) (E : Nat → va_E), ad 0 = h0 → HIn cI cL cS 0 i ad E → GJ p l e rm1 s m args below meth c Q 2 D A (2 + 59 * i) ad E (1 + 59 * i) (7 + 1290 * i) 15 [(0, .ref h0), (1, .int (nI i))] [] := by
  have hts := X.2.2.2.2.1
  intro k
  induction k with
  | zero =>
    intro i hik ad E had hS
    obtain rfl : i = 7 := by omega
    refine g_iload_n X 1 dX1_init_15 rfl rfl ?_
    refine g_bipush X (v := nI 7) rfl dX1_init_16 ?_
    exact g_icmp_ge X (tgt := 40) dX1_init_18 (by decide) (fun _ => Hend ad E had hS) (fun h => absurd (by rw [z_le (by omega) (by omega)]; exact Nat.le_refl 7) h)
  | succ k ih =>
    intro i hik ad E had hS
    obtain ⟨h0', ⟨f1, h1, g1⟩, hl⟩ := id hS
    refine g_iload_n X 1 dX1_init_15 rfl rfl ?_
    refine g_bipush X (v := nI 7) rfl dX1_init_16 ?_
    refine g_icmp_ge X (tgt := 40) dX1_init_18 (by decide) (fun h => absurd h (by rw [z_le (by omega) (by omega)]; omega)) (fun _ => ?_)
    refine g_aload_n X 0 dX1_init_21 rfl rfl ?_
    refine g_geta X (k := 0) (C := RX1) (T := TX1) (NN := 3) (ci := 1) (by omega) had h0' (by decide +kernel) rfl 0 (by decide) (by decide +kernel) rfl rfl dX1_init_22 ?_
    refine g_iload_n X 1 dX1_init_25 rfl rfl ?_
    refine g_new X (C := RX5) (T := TX5) (N := 16) (ci := 5) (fs := fsS) (by decide +kernel) tyX5_ok (by decide +kernel) (by decide +kernel) (by decide +kernel) rfl dfX5 (by show 1 + 59 * i + 1 ≤ 414; omega) (by show 7 + 1290 * i + 16 ≤ 9037; omega) dX1_init_26 (fun q => ?_)
    refine g_dup X rfl dX1_init_29 ?_
    refine g_callN X hO (n2 := 59) [] (k_State_init l D cI cL cS) (fun u hu => hu.1) (up_s _ _ _) (up_s _ _ _) (cwI 0 hts gX1_init_X5_init rfl rfl rfl (hts _ (by decide +kernel)) (hts _ (by decide +kernel)) (hts _ (by decide +kernel)) rfl (by decide +kernel) ⟨Nat.le_of_ble_eq_true rfl, Nat.le_of_ble_eq_true rfl⟩) rfl rfl (Nat.le_of_ble_eq_true rfl) (by show 1 + 59 * i + 1 + 58 ≤ 414; omega) (by show 7 + 1290 * i + 16 + 1274 ≤ 9037; omega) dX1_init_30 (fun ad1 E1 hk hu => ?_)
    obtain ⟨⟨n1, ad2, E2⟩, hpo, hq, f⟩ := hu
    have hA : ∀ k, k < 2 + 59 * i → ad1 k = ad k := fun k h => (hk k h).1.trans (up_n (by omega))
    have hE : ∀ k, k < 2 + 59 * i → E1 k = E k := fun k h => (hk k h).2.trans (up_n (by omega))
    have hq1 : ad1 (2 + 59 * i) = q := (f 0 (by omega)).1.trans hq
    have hst : StIn cI cL (2 + 59 * i) 8 ad1 E1 := hpo.2.mv (fun k hk => by rw [Nat.zero_add]; exact f k (by omega))
    refine g_astqa X (k := 1) (kv := 2 + 59 * i) (f := f1) 2 rfl (by omega) ((hA 1 (by omega)).trans (by rfl)) ((hE 1 (by omega)).trans h1) (by omega) hq1 hst.1 rfl (by rw [z_ib (by omega)]; omega) dX1_init_33 ?_
    refine g_iinc X (v := nI (i + 1)) 1 dX1_init_34 rfl (nI_1 i) (by decide) rfl ?_
    refine g_goto X (tgt := 15) dX1_init_37 (by decide) ?_
    refine g_widen (k := 1 + 59 * (i + 1)) (n := 7 + 1290 * (i + 1)) (by omega) (by omega) ?_
    rw [nI_clamp (by omega), ← hq1]
    have e9 : 2 + 59 * i + 59 = 2 + 59 * (i + 1) := by omega
    rw [e9]
    refine ih (i + 1) (by omega) ad1 _ ((hA 0 (by omega)).trans had) (hS.step hA (fun k h hne => (up_n hne).trans (hE k h)) (fun g hg => ?_) ?_)
    · have e : f1 = g := by
        have := h1.symm.trans hg
        simpa using this
      rw [up_s, e]
    · exact hst.mv (fun k hk => ⟨rfl, up_n (by omega)⟩)
end HIC
def PHist (cI cL cS : ClassId) : WW3 → Prop := fun u => u.1 = 415 ∧ HIn cI cL cS 0 7 u.2.1 u.2.2
theorem k_Hist_init (l : Launch) (D : va_G) (cI cL cS : ClassId) : CT l yX1_init wsX1_init rm1 D (tC cI cL cS) 1 [.null, .int 0, .int 0] [] (PHist cI cL cS) 414 9037 := by
  refine mk_ctor (cc := cX1_init) (own := RX1) (maxL := 2) (fun h0 => [(0, .ref h0)]) (by decide) rfl rfl rfl (fun _ => Nat.le_of_ble_eq_true rfl) (fun _ => rfl) (fun _ => rfl) ?_
  intro h0 p e s m args below meth c X hr hin hO
  refine g_aload_n X 0 dX1_init_0 rfl rfl ?_
  refine g_objInit X (by decide +kernel) (by decide +kernel) (by decide +kernel) (Nat.le_of_ble_eq_true rfl) (Nat.le_of_ble_eq_true rfl) dX1_init_1 ?_
  refine g_aload_n X 0 dX1_init_4 rfl rfl ?_
  refine g_bipush X (v := nI 7) rfl dX1_init_5 ?_
  refine g_newq X (cA := cS) (C := "ProxyVersions$State") (N' := 7) 2 rfl (by decide +kernel) hO.2.1 (nI_pos (by omega)) (nI_clamp (by omega)) (by omega) (Nat.le_of_ble_eq_true rfl) (Nat.le_of_ble_eq_true rfl) dX1_init_7 (fun q1 => ?_)
  refine g_putF X hin (k := 0) (fs := [.null, .int 0, .int 0]) (ci := 1) (C := RX1) (T := TX1) (NN := 3) (by omega) rfl (by decide +kernel) tyX1_ok nmX1 rfl 0 (by decide) (by decide +kernel) rfl rfl rfl rfl rfl rfl (Nat.le_of_ble_eq_true rfl) dX1_init_10 ?_
  refine g_iconst X (v := nI 0) rfl dX1_init_13 ?_
  refine g_istore_n X (lv' := [(0, .ref h0), (1, .int (nI 0))]) dX1_init_14 rfl (by decide) rfl ?_
  refine g_widen (k := 1) (n := 7) (Nat.le_of_ble_eq_true rfl) (Nat.le_of_ble_eq_true rfl) ?_
  exact Hi_loop X hO (fun ad E had hS => g_vret X hr ⟨rfl, hS⟩ had dX1_init_40) 7 0 rfl _ _ rfl ⟨rfl, ⟨fun _ => none, rfl, fun j hj => by omega⟩, fun j hj => by omega⟩
/-- the whole object behind its constructor -/
def PVin (cI cL cS : ClassId) (ad : Nat → Nat) (E : Nat → va_E) : Prop := E 0 = .inr (6, [.ref (ad 1), .ref (ad 60), .ref (ad 63), .ref (ad 66), .ref (ad 481), .ref (ad 483)]) ∧ StIn cI cL 1 8 ad E ∧ (E 60 = .inr (0, [.ref (ad 1), .ref (ad 61), .ref (ad 62)]) ∧ E 61 = iArr cI 4 ∧ E 62 = iArr cI 4) ∧ (E 63 = .inr (3, [.ref (ad 1), .ref (ad 60), .ref (ad 64)]) ∧ LnAt cI 96 64 ad E) ∧ HIn cI cL cS 66 7 ad E ∧ LnAt cI 100 481 ad E ∧ E 483 = .inr (4, [.ref (ad 484), .ref (ad 486), .ref (ad 488)]) ∧ LnAt cI 100 484 ad E ∧ LnAt cI 100 486 ad E ∧ LnAt cI 100 488 ad E
abbrev rm7 : Room := { frames := 5, cells := 489, slots := 10853, locals := 240 }
set_option maxHeartbeats 1000000 in
theorem k_PV_init (l : Launch) (D : va_G) (cI cL cS : ClassId) : CT l yX7_init wsX7_init rm7 D (tC cI cL cS) 6 [.null, .null, .null, .null, .null, .null] [] (fun u => u.1 = 490 ∧ PVin cI cL cS u.2.1 u.2.2) 489 10853 := by
  refine mk_ctor (cc := cX7_init) (own := RX7) (maxL := 1) (fun h0 => [(0, .ref h0)]) (by decide) rfl rfl rfl (fun _ => Nat.le_of_ble_eq_true rfl) (fun _ => rfl) (fun _ => rfl) ?_
  intro h0 p e s m args below meth c X hr hin hO
  have hts := X.2.2.2.2.1
  refine g_aload_n X 0 dX7_init_0 rfl rfl ?_
  refine g_objInit X (by decide +kernel) (by decide +kernel) (by decide +kernel) (Nat.le_of_ble_eq_true rfl) (Nat.le_of_ble_eq_true rfl) dX7_init_1 ?_
  obtain ⟨ad0, had0⟩ : ∃ f : Nat → Nat, f = fun _ => h0 := ⟨_, rfl⟩
  obtain ⟨F0', hF0⟩ : ∃ f : Nat → va_E, f = fun _ => .inr (6, [.null, .null, .null, .null, .null, .null]) := ⟨_, rfl⟩
  rw [← had0, ← hF0]
  have h0_0 : ad0 0 = h0 := by rw [had0]
  have z0_0 : F0' 0 = .inr (6, [.null, .null, .null, .null, .null, .null]) := by rw [hF0]
  generalize F0' = F0 at z0_0 ⊢
  refine g_aload_n X 0 dX7_init_4 rfl rfl ?_
  refine g_new X (C := RX5) (T := TX5) (N := 16) (ci := 5) (fs := fsS) (by decide +kernel) tyX5_ok (by decide +kernel) (by decide +kernel) (by decide +kernel) rfl dfX5 (Nat.le_of_ble_eq_true rfl) (Nat.le_of_ble_eq_true rfl) dX7_init_5 (fun q0 => ?_)
  refine g_dup X rfl dX7_init_8 ?_
  refine g_callN X hO (n2 := 59) [] (k_State_init l D cI cL cS) (fun u hu => hu.1) (up_s _ _ _) (up_s _ _ _) (cwI 0 hts gX7_init_X5_init rfl rfl rfl (hts _ (by decide +kernel)) (hts _ (by decide +kernel)) (hts _ (by decide +kernel)) rfl (by decide +kernel) ⟨Nat.le_of_ble_eq_true rfl, Nat.le_of_ble_eq_true rfl⟩) rfl rfl (Nat.le_of_ble_eq_true rfl) (Nat.le_of_ble_eq_true rfl) (Nat.le_of_ble_eq_true rfl) dX7_init_9 (fun ad1 E1 hk0 hu => ?_)
  obtain ⟨⟨_, adx0, Ex0⟩, po0, hq0, f0⟩ := hu
  have A0 : ∀ k, k < 1 → ad1 k = ad0 k := fun k h => (hk0 k h).1.trans (up_n (by omega))
  have B00 : ∀ k, k < 1 → E1 k = F0 k := fun k h => (hk0 k h).2.trans (up_n (by omega))
  have r0 : ad1 1 = q0 := (f0 0 (by omega)).1.trans hq0
  refine g_putFk X hin (k := 0) (a := h0) (fs := [.null, .null, .null, .null, .null, .null]) (fs1 := [.ref q0, .null, .null, .null, .null, .null]) (ci := 6) (C := RX7) (T := TX7) (NN := 6) (by omega) ((A0 0 (by omega)).trans h0_0) ((B00 0 (by omega)).trans z0_0) (by decide +kernel) tyX7_ok nmX7 rfl 0 (by decide) (by decide +kernel) rfl rfl rfl rfl rfl rfl (Nat.le_of_ble_eq_true rfl) rfl dX7_init_12 (fun F1 y0 yy0 => ?_)
  have B0 : ∀ k, k < 1 → k ≠ 0 → F1 k = F0 k := fun k h hne => (yy0 k hne).trans (B00 k h)
  have G0 : ∀ k, k < 59 → ad1 (1 + k) = adx0 k ∧ F1 (1 + k) = Ex0 k := fun k h => ⟨(f0 k h).1, (yy0 _ (by omega)).trans (f0 k h).2⟩
  have h0_1 : ad1 0 = h0 := (A0 0 (by omega)).trans h0_0
  have z0_1 : F1 0 = .inr (6, [.ref (ad1 1), .null, .null, .null, .null, .null]) := by rw [y0, r0]
  have st_1 : StIn cI cL 1 8 ad1 F1 := po0.2.mv (fun k hk => by rw [Nat.zero_add]; exact G0 k (by omega))
  refine g_aload_n X 0 dX7_init_15 rfl rfl ?_
  refine g_new X (C := RX0) (T := TX0) (N := 3) (ci := 0) (fs := [.null, .null, .null]) (by decide +kernel) tyX0_ok (by decide +kernel) (by decide +kernel) (by decide +kernel) rfl (fun j hj => by rcases df3 j hj with rfl | rfl | rfl <;> rfl) (Nat.le_of_ble_eq_true rfl) (Nat.le_of_ble_eq_true rfl) dX7_init_16 (fun q1 => ?_)
  refine g_dup X rfl dX7_init_19 ?_
  refine g_aload_n X 0 dX7_init_20 rfl rfl ?_
  refine g_geta X (k := 0) (C := RX7) (T := TX7) (NN := 6) (ci := 6) (by omega) ((up_n (by omega)).trans h0_1) ((up_n (by omega)).trans z0_1) (by decide +kernel) rfl 0 (by decide) (by decide +kernel) rfl rfl dX7_init_21 ?_
  refine g_callN X hO (n2 := 3) [.ref (ad1 1)] (k_Caus_init l D cI cL cS (ad1 1)) (fun u hu => hu.1) (up_s _ _ _) (up_s _ _ _) (cwI 1 hts gX7_init_X0_init rfl rfl rfl (hts _ (by decide +kernel)) (hts _ (by decide +kernel)) (hts _ (by decide +kernel)) rfl (by decide +kernel) ⟨Nat.le_of_ble_eq_true rfl, Nat.le_of_ble_eq_true rfl⟩) rfl rfl (Nat.le_of_ble_eq_true rfl) (Nat.le_of_ble_eq_true rfl) (Nat.le_of_ble_eq_true rfl) dX7_init_24 (fun ad2 E2 hk1 hu => ?_)
  obtain ⟨⟨_, adx1, Ex1⟩, po1, hq1, f1⟩ := hu
  have A1 : ∀ k, k < 60 → ad2 k = ad1 k := fun k h => (hk1 k h).1.trans (up_n (by omega))
  have B01 : ∀ k, k < 60 → E2 k = F1 k := fun k h => (hk1 k h).2.trans (up_n (by omega))
  have r1 : ad2 60 = q1 := (f1 0 (by omega)).1.trans hq1
  refine g_putFk X hin (k := 0) (a := h0) (fs := [.ref (ad1 1), .null, .null, .null, .null, .null]) (fs1 := [.ref (ad1 1), .ref q1, .null, .null, .null, .null]) (ci := 6) (C := RX7) (T := TX7) (NN := 6) (by omega) ((A1 0 (by omega)).trans h0_1) ((B01 0 (by omega)).trans z0_1) (by decide +kernel) tyX7_ok nmX7 rfl 1 (by decide) (by decide +kernel) rfl rfl rfl rfl rfl rfl (Nat.le_of_ble_eq_true rfl) rfl dX7_init_27 (fun F2 y1 yy1 => ?_)
  have B1 : ∀ k, k < 60 → k ≠ 0 → F2 k = F1 k := fun k h hne => (yy1 k hne).trans (B01 k h)
  have G1 : ∀ k, k < 3 → ad2 (60 + k) = adx1 k ∧ F2 (60 + k) = Ex1 k := fun k h => ⟨(f1 k h).1, (yy1 _ (by omega)).trans (f1 k h).2⟩
  have h0_2 : ad2 0 = h0 := (A1 0 (by omega)).trans h0_1
  have z0_2 : F2 0 = .inr (6, [.ref (ad2 1), .ref (ad2 60), .null, .null, .null, .null]) := by rw [y1, A1 1 (by omega), r1]
  have st_2 : StIn cI cL 1 8 ad2 F2 := st_1.mv (fun k hk => ⟨A1 _ (by omega), B1 _ (by omega) (by omega)⟩)
  have ca_2 : F2 60 = .inr (0, [.ref (ad2 1), .ref (ad2 61), .ref (ad2 62)]) := by rw [show F2 60 = Ex1 0 from (G1 0 (by omega)).2, show ad2 61 = adx1 1 from (G1 1 (by omega)).1, show ad2 62 = adx1 2 from (G1 2 (by omega)).1, A1 1 (by omega)]; exact po1.2.1
  have cb_2 : F2 61 = iArr cI 4 := (G1 1 (by omega)).2.trans po1.2.2.1
  have cc_2 : F2 62 = iArr cI 4 := (G1 2 (by omega)).2.trans po1.2.2.2
  refine g_aload_n X 0 dX7_init_30 rfl rfl ?_
  refine g_new X (C := RX3) (T := TX3) (N := 3) (ci := 3) (fs := [.null, .null, .null]) (by decide +kernel) tyX3_ok (by decide +kernel) (by decide +kernel) (by decide +kernel) rfl (fun j hj => by rcases df3 j hj with rfl | rfl | rfl <;> rfl) (Nat.le_of_ble_eq_true rfl) (Nat.le_of_ble_eq_true rfl) dX7_init_31 (fun q2 => ?_)
  refine g_dup X rfl dX7_init_34 ?_
  refine g_aload_n X 0 dX7_init_35 rfl rfl ?_
  refine g_geta X (k := 0) (C := RX7) (T := TX7) (NN := 6) (ci := 6) (by omega) ((up_n (by omega)).trans h0_2) ((up_n (by omega)).trans z0_2) (by decide +kernel) rfl 0 (by decide) (by decide +kernel) rfl rfl dX7_init_36 ?_
  refine g_aload_n X 0 dX7_init_39 rfl rfl ?_
  refine g_geta X (k := 0) (C := RX7) (T := TX7) (NN := 6) (ci := 6) (by omega) ((up_n (by omega)).trans h0_2) ((up_n (by omega)).trans z0_2) (by decide +kernel) rfl 1 (by decide) (by decide +kernel) rfl rfl dX7_init_40 ?_
  refine g_callN X hO (n2 := 3) [.ref (ad2 1), .ref (ad2 60)] (k_Net_init l D cI cL cS (ad2 1) (ad2 60)) (fun u hu => hu.1) (up_s _ _ _) (up_s _ _ _) (cwI 2 hts gX7_init_X3_init rfl rfl rfl (hts _ (by decide +kernel)) (hts _ (by decide +kernel)) (hts _ (by decide +kernel)) rfl (by decide +kernel) ⟨Nat.le_of_ble_eq_true rfl, Nat.le_of_ble_eq_true rfl⟩) rfl rfl (Nat.le_of_ble_eq_true rfl) (Nat.le_of_ble_eq_true rfl) (Nat.le_of_ble_eq_true rfl) dX7_init_43 (fun ad3 E3 hk2 hu => ?_)
  obtain ⟨⟨_, adx2, Ex2⟩, po2, hq2, f2⟩ := hu
  have A2 : ∀ k, k < 63 → ad3 k = ad2 k := fun k h => (hk2 k h).1.trans (up_n (by omega))
  have B02 : ∀ k, k < 63 → E3 k = F2 k := fun k h => (hk2 k h).2.trans (up_n (by omega))
  have r2 : ad3 63 = q2 := (f2 0 (by omega)).1.trans hq2
  refine g_putFk X hin (k := 0) (a := h0) (fs := [.ref (ad2 1), .ref (ad2 60), .null, .null, .null, .null]) (fs1 := [.ref (ad2 1), .ref (ad2 60), .ref q2, .null, .null, .null]) (ci := 6) (C := RX7) (T := TX7) (NN := 6) (by omega) ((A2 0 (by omega)).trans h0_2) ((B02 0 (by omega)).trans z0_2) (by decide +kernel) tyX7_ok nmX7 rfl 2 (by decide) (by decide +kernel) rfl rfl rfl rfl rfl rfl (Nat.le_of_ble_eq_true rfl) rfl dX7_init_46 (fun F3 y2 yy2 => ?_)
  have B2 : ∀ k, k < 63 → k ≠ 0 → F3 k = F2 k := fun k h hne => (yy2 k hne).trans (B02 k h)
  have G2 : ∀ k, k < 3 → ad3 (63 + k) = adx2 k ∧ F3 (63 + k) = Ex2 k := fun k h => ⟨(f2 k h).1, (yy2 _ (by omega)).trans (f2 k h).2⟩
  have h0_3 : ad3 0 = h0 := (A2 0 (by omega)).trans h0_2
  have z0_3 : F3 0 = .inr (6, [.ref (ad3 1), .ref (ad3 60), .ref (ad3 63), .null, .null, .null]) := by rw [y2, A2 1 (by omega), A2 60 (by omega), r2]
  have st_3 : StIn cI cL 1 8 ad3 F3 := st_2.mv (fun k hk => ⟨A2 _ (by omega), B2 _ (by omega) (by omega)⟩)
  have ca_3 : F3 60 = .inr (0, [.ref (ad3 1), .ref (ad3 61), .ref (ad3 62)]) := by rw [B2 60 (by omega) (by omega), ca_2, A2 1 (by omega), A2 61 (by omega), A2 62 (by omega)]
  have cb_3 : F3 61 = iArr cI 4 := (B2 61 (by omega) (by omega)).trans cb_2
  have cc_3 : F3 62 = iArr cI 4 := (B2 62 (by omega) (by omega)).trans cc_2
  have ne_3 : F3 63 = .inr (3, [.ref (ad3 1), .ref (ad3 60), .ref (ad3 64)]) := by rw [show F3 63 = Ex2 0 from (G2 0 (by omega)).2, show ad3 64 = adx2 1 from (G2 1 (by omega)).1, A2 1 (by omega), A2 60 (by omega)]; exact po2.2.1
  have nl_3 : LnAt cI 96 64 ad3 F3 := ⟨by rw [show F3 64 = Ex2 1 from (G2 1 (by omega)).2, show ad3 (64 + 1) = adx2 2 from (G2 2 (by omega)).1]; exact po2.2.2.1, (G2 2 (by omega)).2.trans po2.2.2.2⟩
  refine g_aload_n X 0 dX7_init_49 rfl rfl ?_
  refine g_new X (C := RX1) (T := TX1) (N := 3) (ci := 1) (fs := [.null, .int 0, .int 0]) (by decide +kernel) tyX1_ok (by decide +kernel) (by decide +kernel) (by decide +kernel) rfl (fun j hj => by rcases df3 j hj with rfl | rfl | rfl <;> rfl) (Nat.le_of_ble_eq_true rfl) (Nat.le_of_ble_eq_true rfl) dX7_init_50 (fun q3 => ?_)
  refine g_dup X rfl dX7_init_53 ?_
  refine g_callN X hO (n2 := 415) [] (k_Hist_init l D cI cL cS) (fun u hu => hu.1) (up_s _ _ _) (up_s _ _ _) (cwI 0 hts gX7_init_X1_init rfl rfl rfl (hts _ (by decide +kernel)) (hts _ (by decide +kernel)) (hts _ (by decide +kernel)) rfl (by decide +kernel) ⟨Nat.le_of_ble_eq_true rfl, Nat.le_of_ble_eq_true rfl⟩) rfl rfl (Nat.le_of_ble_eq_true rfl) (Nat.le_of_ble_eq_true rfl) (Nat.le_of_ble_eq_true rfl) dX7_init_54 (fun ad4 E4 hk3 hu => ?_)
  obtain ⟨⟨_, adx3, Ex3⟩, po3, hq3, f3⟩ := hu
  have A3 : ∀ k, k < 66 → ad4 k = ad3 k := fun k h => (hk3 k h).1.trans (up_n (by omega))
  have B03 : ∀ k, k < 66 → E4 k = F3 k := fun k h => (hk3 k h).2.trans (up_n (by omega))
  have r3 : ad4 66 = q3 := (f3 0 (by omega)).1.trans hq3
  refine g_putFk X hin (k := 0) (a := h0) (fs := [.ref (ad3 1), .ref (ad3 60), .ref (ad3 63), .null, .null, .null]) (fs1 := [.ref (ad3 1), .ref (ad3 60), .ref (ad3 63), .ref q3, .null, .null]) (ci := 6) (C := RX7) (T := TX7) (NN := 6) (by omega) ((A3 0 (by omega)).trans h0_3) ((B03 0 (by omega)).trans z0_3) (by decide +kernel) tyX7_ok nmX7 rfl 3 (by decide) (by decide +kernel) rfl rfl rfl rfl rfl rfl (Nat.le_of_ble_eq_true rfl) rfl dX7_init_57 (fun F4 y3 yy3 => ?_)
  have B3 : ∀ k, k < 66 → k ≠ 0 → F4 k = F3 k := fun k h hne => (yy3 k hne).trans (B03 k h)
  have G3 : ∀ k, k < 415 → ad4 (66 + k) = adx3 k ∧ F4 (66 + k) = Ex3 k := fun k h => ⟨(f3 k h).1, (yy3 _ (by omega)).trans (f3 k h).2⟩
  have h0_4 : ad4 0 = h0 := (A3 0 (by omega)).trans h0_3
  have z0_4 : F4 0 = .inr (6, [.ref (ad4 1), .ref (ad4 60), .ref (ad4 63), .ref (ad4 66), .null, .null]) := by rw [y3, A3 1 (by omega), A3 60 (by omega), A3 63 (by omega), r3]
  have st_4 : StIn cI cL 1 8 ad4 F4 := st_3.mv (fun k hk => ⟨A3 _ (by omega), B3 _ (by omega) (by omega)⟩)
  have ca_4 : F4 60 = .inr (0, [.ref (ad4 1), .ref (ad4 61), .ref (ad4 62)]) := by rw [B3 60 (by omega) (by omega), ca_3, A3 1 (by omega), A3 61 (by omega), A3 62 (by omega)]
  have cb_4 : F4 61 = iArr cI 4 := (B3 61 (by omega) (by omega)).trans cb_3
  have cc_4 : F4 62 = iArr cI 4 := (B3 62 (by omega) (by omega)).trans cc_3
  have ne_4 : F4 63 = .inr (3, [.ref (ad4 1), .ref (ad4 60), .ref (ad4 64)]) := by rw [B3 63 (by omega) (by omega), ne_3, A3 1 (by omega), A3 60 (by omega), A3 64 (by omega)]
  have nl_4 : LnAt cI 96 64 ad4 F4 := nl_3.mv (fun k hk => ⟨A3 _ (by omega), B3 _ (by omega) (by omega)⟩)
  have hi_4 : HIn cI cL cS 66 7 ad4 F4 := po3.2.mv (fun k hk => by rw [Nat.zero_add]; exact G3 k (by omega))
  refine g_aload_n X 0 dX7_init_60 rfl rfl ?_
  refine g_new X (C := RX2) (T := TX2) (N := 2) (ci := 2) (fs := [.null, .int 0]) (by decide +kernel) tyX2_ok (by decide +kernel) (by decide +kernel) (by decide +kernel) rfl (fun j hj => by rcases (show j = 0 ∨ j = 1 by omega) with rfl | rfl <;> rfl) (Nat.le_of_ble_eq_true rfl) (Nat.le_of_ble_eq_true rfl) dX7_init_61 (fun q4 => ?_)
  refine g_dup X rfl dX7_init_64 ?_
  refine g_bipush X (v := nI 100) rfl dX7_init_65 ?_
  refine g_callN X hO (n2 := 2) [.int (nI 100)] (k_Line_init l D cI cL cS (n := 100) (by omega)) (fun u hu => hu.1) (up_s _ _ _) (up_s _ _ _) (cwI 1 hts gX7_init_X2_init rfl rfl rfl (hts _ (by decide +kernel)) (hts _ (by decide +kernel)) (hts _ (by decide +kernel)) rfl (by decide +kernel) ⟨Nat.le_of_ble_eq_true rfl, Nat.le_of_ble_eq_true rfl⟩) rfl rfl (Nat.le_of_ble_eq_true rfl) (Nat.le_of_ble_eq_true rfl) (Nat.le_of_ble_eq_true rfl) dX7_init_67 (fun ad5 E5 hk4 hu => ?_)
  obtain ⟨⟨_, adx4, Ex4⟩, po4, hq4, f4⟩ := hu
  have A4 : ∀ k, k < 481 → ad5 k = ad4 k := fun k h => (hk4 k h).1.trans (up_n (by omega))
  have B04 : ∀ k, k < 481 → E5 k = F4 k := fun k h => (hk4 k h).2.trans (up_n (by omega))
  have r4 : ad5 481 = q4 := (f4 0 (by omega)).1.trans hq4
  refine g_putFk X hin (k := 0) (a := h0) (fs := [.ref (ad4 1), .ref (ad4 60), .ref (ad4 63), .ref (ad4 66), .null, .null]) (fs1 := [.ref (ad4 1), .ref (ad4 60), .ref (ad4 63), .ref (ad4 66), .ref q4, .null]) (ci := 6) (C := RX7) (T := TX7) (NN := 6) (by omega) ((A4 0 (by omega)).trans h0_4) ((B04 0 (by omega)).trans z0_4) (by decide +kernel) tyX7_ok nmX7 rfl 4 (by decide) (by decide +kernel) rfl rfl rfl rfl rfl rfl (Nat.le_of_ble_eq_true rfl) rfl dX7_init_70 (fun F5 y4 yy4 => ?_)
  have B4 : ∀ k, k < 481 → k ≠ 0 → F5 k = F4 k := fun k h hne => (yy4 k hne).trans (B04 k h)
  have G4 : ∀ k, k < 2 → ad5 (481 + k) = adx4 k ∧ F5 (481 + k) = Ex4 k := fun k h => ⟨(f4 k h).1, (yy4 _ (by omega)).trans (f4 k h).2⟩
  have h0_5 : ad5 0 = h0 := (A4 0 (by omega)).trans h0_4
  have z0_5 : F5 0 = .inr (6, [.ref (ad5 1), .ref (ad5 60), .ref (ad5 63), .ref (ad5 66), .ref (ad5 481), .null]) := by rw [y4, A4 1 (by omega), A4 60 (by omega), A4 63 (by omega), A4 66 (by omega), r4]
  have st_5 : StIn cI cL 1 8 ad5 F5 := st_4.mv (fun k hk => ⟨A4 _ (by omega), B4 _ (by omega) (by omega)⟩)
  have ca_5 : F5 60 = .inr (0, [.ref (ad5 1), .ref (ad5 61), .ref (ad5 62)]) := by rw [B4 60 (by omega) (by omega), ca_4, A4 1 (by omega), A4 61 (by omega), A4 62 (by omega)]
  have cb_5 : F5 61 = iArr cI 4 := (B4 61 (by omega) (by omega)).trans cb_4
  have cc_5 : F5 62 = iArr cI 4 := (B4 62 (by omega) (by omega)).trans cc_4
  have ne_5 : F5 63 = .inr (3, [.ref (ad5 1), .ref (ad5 60), .ref (ad5 64)]) := by rw [B4 63 (by omega) (by omega), ne_4, A4 1 (by omega), A4 60 (by omega), A4 64 (by omega)]
  have nl_5 : LnAt cI 96 64 ad5 F5 := nl_4.mv (fun k hk => ⟨A4 _ (by omega), B4 _ (by omega) (by omega)⟩)
  have hi_5 : HIn cI cL cS 66 7 ad5 F5 := hi_4.mv (fun k hk => ⟨A4 _ (by omega), B4 _ (by omega) (by omega)⟩)
  have tx_5 : LnAt cI 100 481 ad5 F5 := ⟨by rw [show F5 481 = Ex4 0 from (G4 0 (by omega)).2, show ad5 (481 + 1) = adx4 1 from (G4 1 (by omega)).1]; exact po4.2.1, (G4 1 (by omega)).2.trans po4.2.2⟩
  refine g_aload_n X 0 dX7_init_73 rfl rfl ?_
  refine g_new X (C := RX4) (T := TX4) (N := 3) (ci := 4) (fs := [.null, .null, .null]) (by decide +kernel) tyX4_ok (by decide +kernel) (by decide +kernel) (by decide +kernel) rfl (fun j hj => by rcases df3 j hj with rfl | rfl | rfl <;> rfl) (Nat.le_of_ble_eq_true rfl) (Nat.le_of_ble_eq_true rfl) dX7_init_74 (fun q5 => ?_)
  refine g_dup X rfl dX7_init_77 ?_
  refine g_callNN X hO (n2 := 7) [] (k_Scr_init l D cI cL cS) (fun u hu => hu.1) (up_s _ _ _) (up_s _ _ _) (⟨va_cnB 0 hts gX7_init_X4_init_n52 rfl rfl rfl (hO.2.2.2 ("ProxyVersions", 52, ⟨"ProxyVersions$Script", "<init>", "()V"⟩, "ProxyVersions") (List.mem_of_getElem? (i := 0) rfl)) (hts _ (by decide +kernel)) (by decide +kernel) ⟨Nat.le_of_ble_eq_true rfl, Nat.le_of_ble_eq_true rfl⟩, rfl, hts _ (by decide +kernel)⟩) rfl rfl (Nat.le_of_ble_eq_true rfl) (Nat.le_of_ble_eq_true rfl) (Nat.le_of_ble_eq_true rfl) dX7_init_78 (fun ad6 E6 hk5 hu => ?_)
  obtain ⟨⟨_, adx5, Ex5⟩, po5, hq5, f5⟩ := hu
  have A5 : ∀ k, k < 483 → ad6 k = ad5 k := fun k h => (hk5 k h).1.trans (up_n (by omega))
  have B05 : ∀ k, k < 483 → E6 k = F5 k := fun k h => (hk5 k h).2.trans (up_n (by omega))
  have r5 : ad6 483 = q5 := (f5 0 (by omega)).1.trans hq5
  refine g_putFk X hin (k := 0) (a := h0) (fs := [.ref (ad5 1), .ref (ad5 60), .ref (ad5 63), .ref (ad5 66), .ref (ad5 481), .null]) (fs1 := [.ref (ad5 1), .ref (ad5 60), .ref (ad5 63), .ref (ad5 66), .ref (ad5 481), .ref q5]) (ci := 6) (C := RX7) (T := TX7) (NN := 6) (by omega) ((A5 0 (by omega)).trans h0_5) ((B05 0 (by omega)).trans z0_5) (by decide +kernel) tyX7_ok nmX7 rfl 5 (by decide) (by decide +kernel) rfl rfl rfl rfl rfl rfl (Nat.le_of_ble_eq_true rfl) rfl dX7_init_81 (fun F6 y5 yy5 => ?_)
  have B5 : ∀ k, k < 483 → k ≠ 0 → F6 k = F5 k := fun k h hne => (yy5 k hne).trans (B05 k h)
  have G5 : ∀ k, k < 7 → ad6 (483 + k) = adx5 k ∧ F6 (483 + k) = Ex5 k := fun k h => ⟨(f5 k h).1, (yy5 _ (by omega)).trans (f5 k h).2⟩
  have h0_6 : ad6 0 = h0 := (A5 0 (by omega)).trans h0_5
  have z0_6 : F6 0 = .inr (6, [.ref (ad6 1), .ref (ad6 60), .ref (ad6 63), .ref (ad6 66), .ref (ad6 481), .ref (ad6 483)]) := by rw [y5, A5 1 (by omega), A5 60 (by omega), A5 63 (by omega), A5 66 (by omega), A5 481 (by omega), r5]
  have st_6 : StIn cI cL 1 8 ad6 F6 := st_5.mv (fun k hk => ⟨A5 _ (by omega), B5 _ (by omega) (by omega)⟩)
  have ca_6 : F6 60 = .inr (0, [.ref (ad6 1), .ref (ad6 61), .ref (ad6 62)]) := by rw [B5 60 (by omega) (by omega), ca_5, A5 1 (by omega), A5 61 (by omega), A5 62 (by omega)]
  have cb_6 : F6 61 = iArr cI 4 := (B5 61 (by omega) (by omega)).trans cb_5
  have cc_6 : F6 62 = iArr cI 4 := (B5 62 (by omega) (by omega)).trans cc_5
  have ne_6 : F6 63 = .inr (3, [.ref (ad6 1), .ref (ad6 60), .ref (ad6 64)]) := by rw [B5 63 (by omega) (by omega), ne_5, A5 1 (by omega), A5 60 (by omega), A5 64 (by omega)]
  have nl_6 : LnAt cI 96 64 ad6 F6 := nl_5.mv (fun k hk => ⟨A5 _ (by omega), B5 _ (by omega) (by omega)⟩)
  have hi_6 : HIn cI cL cS 66 7 ad6 F6 := hi_5.mv (fun k hk => ⟨A5 _ (by omega), B5 _ (by omega) (by omega)⟩)
  have tx_6 : LnAt cI 100 481 ad6 F6 := tx_5.mv (fun k hk => ⟨A5 _ (by omega), B5 _ (by omega) (by omega)⟩)
  have sc_6 : F6 483 = .inr (4, [.ref (ad6 484), .ref (ad6 486), .ref (ad6 488)]) := by rw [show F6 483 = Ex5 0 from (G5 0 (by omega)).2, show ad6 484 = adx5 1 from (G5 1 (by omega)).1, show ad6 486 = adx5 3 from (G5 3 (by omega)).1, show ad6 488 = adx5 5 from (G5 5 (by omega)).1]; exact po5.2.1
  have s0_6 : LnAt cI 100 484 ad6 F6 := ⟨by rw [show F6 484 = Ex5 1 from (G5 1 (by omega)).2, show ad6 (484 + 1) = adx5 2 from (G5 2 (by omega)).1]; exact po5.2.2.1.1, (G5 2 (by omega)).2.trans po5.2.2.1.2⟩
  have s1_6 : LnAt cI 100 486 ad6 F6 := ⟨by rw [show F6 486 = Ex5 3 from (G5 3 (by omega)).2, show ad6 (486 + 1) = adx5 4 from (G5 4 (by omega)).1]; exact po5.2.2.2.1.1, (G5 4 (by omega)).2.trans po5.2.2.2.1.2⟩
  have s2_6 : LnAt cI 100 488 ad6 F6 := ⟨by rw [show F6 488 = Ex5 5 from (G5 5 (by omega)).2, show ad6 (488 + 1) = adx5 6 from (G5 6 (by omega)).1]; exact po5.2.2.2.2.1, (G5 6 (by omega)).2.trans po5.2.2.2.2.2⟩
  refine g_widen (k := 489) (n := 10853) (Nat.le_of_ble_eq_true rfl) (Nat.le_of_ble_eq_true rfl) ?_
  exact g_vret X hr ⟨rfl, z0_6, st_6, ⟨ca_6, cb_6, cc_6⟩, ⟨ne_6, nl_6⟩, hi_6, tx_6, sc_6, s0_6, s1_6, s2_6⟩ h0_6 dX7_init_84
