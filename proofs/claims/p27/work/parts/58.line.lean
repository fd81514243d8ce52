/-! ===== the constructors: Line, Causality, Script, Network ===== -/
/-- a line of n places: the object, then its row -/
def PLine (cI : ClassId) (n : Nat) : WW3 → Prop := fun u => u.1 = 2 ∧ u.2.2 0 = .inr (2, [.ref (u.2.1 1), .int 0]) ∧ u.2.2 1 = .inl (cI, n, .inl (fun _ => 0))
theorem k_Line_init (l : Launch) (D : va_G) (cI cL cS : ClassId) {n : Nat} (hn : n ≤ 100) : CT l yX2_init wsX2_init ({ frames := 2, cells := 1, slots := n, locals := 60 }) D (tC cI cL cS) 2 [.null, .int 0] [.int (nI n)] (PLine cI n) 1 n := by
  refine mk_ctor (cc := cX2_init) (own := RX2) (maxL := 2) (fun h0 => [(0, .ref h0), (1, .int (nI n))]) (by decide) rfl rfl rfl (fun _ => Nat.le_of_ble_eq_true rfl) (fun _ => rfl) (fun _ => rfl) ?_
  intro h0 p e s m args below meth c X hr hin hO
  refine g_aload_n X 0 dX2_init_0 rfl rfl ?_
  refine g_objInit X (by decide +kernel) (by decide +kernel) (by decide +kernel) (Nat.le_of_ble_eq_true rfl) (Nat.le_of_ble_eq_true rfl) dX2_init_1 ?_
  refine g_aload_n X 0 dX2_init_4 rfl rfl ?_
  refine g_iload_n X 1 dX2_init_5 rfl rfl ?_
  refine g_iconst X (v := 0) rfl dX2_init_6 ?_
  refine g_mmax X (by decide +kernel) (by decide +kernel) (by decide +kernel) (by decide +kernel) (Nat.le_of_ble_eq_true rfl) (Nat.le_of_ble_eq_true rfl) (Nat.zero_le _) (Nat.zero_le _) dX2_init_7 ?_
  rw [show (if nI n < 0 then (0 : Int32) else nI n) = nI n from if_neg (nI_pos (by omega))]
  refine g_newi X (cI := cI) 0 rfl (by decide +kernel) (nI_pos (by omega)) (nI_clamp (by omega)) (by omega) (Nat.le_refl 1) (by show 0 + n ≤ n; omega) dX2_init_10 (fun q => ?_)
  refine g_putF X hin (k := 0) (fs := [.null, .int 0]) (ci := 2) (C := RX2) (T := TX2) (NN := 2) (by omega) rfl (by decide +kernel) tyX2_ok nmX2 rfl 0 (by decide) (by decide +kernel) rfl rfl rfl rfl rfl rfl (by decide) dX2_init_12 ?_
  refine g_widen (k := 1) (n := n) (Nat.le_refl 1) (by omega) ?_
  exact g_vret X hr ⟨rfl, rfl, rfl⟩ rfl dX2_init_15

/-- causality: the object, its two rows -/
def PCaus (cI : ClassId) (s0 : Nat) : WW3 → Prop := fun u => u.1 = 3 ∧ u.2.2 0 = .inr (0, [.ref s0, .ref (u.2.1 1), .ref (u.2.1 2)]) ∧ u.2.2 1 = .inl (cI, 4, .inl (fun _ => 0)) ∧ u.2.2 2 = .inl (cI, 4, .inl (fun _ => 0))
theorem k_Caus_init (l : Launch) (D : va_G) (cI cL cS : ClassId) (s0 : Nat) : CT l yX0_init wsX0_init ({ frames := 1, cells := 2, slots := 8, locals := 40 }) D (tC cI cL cS) 0 [.null, .null, .null] [.ref s0] (PCaus cI s0) 2 8 := by
  refine mk_ctor (cc := cX0_init) (own := RX0) (maxL := 2) (fun h0 => [(0, .ref h0), (1, .ref s0)]) (by decide) rfl rfl rfl (fun _ => Nat.le_of_ble_eq_true rfl) (fun _ => rfl) (fun _ => rfl) ?_
  intro h0 p e s m args below meth c X hr hin hO
  refine g_aload_n X 0 dX0_init_0 rfl rfl ?_
  refine g_objInit X (by decide +kernel) (by decide +kernel) (by decide +kernel) (Nat.le_of_ble_eq_true rfl) (Nat.le_of_ble_eq_true rfl) dX0_init_1 ?_
  refine g_aload_n X 0 dX0_init_4 rfl rfl ?_
  refine g_iconst X (v := nI 4) rfl dX0_init_5 ?_
  refine g_newi X (cI := cI) (N' := 4) 0 rfl (by decide +kernel) (nI_pos (by omega)) (nI_clamp (by omega)) (by omega) (by decide) (by decide) dX0_init_6 (fun q1 => ?_)
  refine g_putF X hin (k := 0) (fs := [.null, .null, .null]) (ci := 0) (C := RX0) (T := TX0) (NN := 3) (by omega) rfl (by decide +kernel) tyX0_ok nmX0 rfl 1 (by decide) (by decide +kernel) rfl rfl rfl rfl rfl rfl (Nat.le_of_ble_eq_true rfl) dX0_init_8 ?_
  refine g_aload_n X 0 dX0_init_11 rfl rfl ?_
  refine g_iconst X (v := nI 4) rfl dX0_init_12 ?_
  refine g_newi X (cI := cI) (N' := 4) 0 rfl (by decide +kernel) (nI_pos (by omega)) (nI_clamp (by omega)) (by omega) (by decide) (by decide) dX0_init_13 (fun q2 => ?_)
  refine g_putF X hin (k := 0) (fs := [.null, .ref q1, .null]) (ci := 0) (C := RX0) (T := TX0) (NN := 3) (by omega) rfl (by decide +kernel) tyX0_ok nmX0 rfl 2 (by decide) (by decide +kernel) rfl rfl rfl rfl rfl rfl (Nat.le_of_ble_eq_true rfl) dX0_init_15 ?_
  refine g_aload_n X 0 dX0_init_18 rfl rfl ?_
  refine g_aload_n X 1 dX0_init_19 rfl rfl ?_
  refine g_putF X hin (k := 0) (fs := [.null, .ref q1, .ref q2]) (ci := 0) (C := RX0) (T := TX0) (NN := 3) (by omega) rfl (by decide +kernel) tyX0_ok nmX0 rfl 0 (by decide) (by decide +kernel) rfl rfl rfl rfl rfl rfl (Nat.le_of_ble_eq_true rfl) dX0_init_20 ?_
  exact g_vret X hr ⟨rfl, rfl, rfl, rfl⟩ rfl dX0_init_23

/-- a script: the object, then its three lines -/
def PScr (cI : ClassId) : WW3 → Prop := fun u => u.1 = 7 ∧ u.2.2 0 = .inr (4, [.ref (u.2.1 1), .ref (u.2.1 3), .ref (u.2.1 5)]) ∧ (u.2.2 1 = .inr (2, [.ref (u.2.1 2), .int 0]) ∧ u.2.2 2 = .inl (cI, 100, .inl (fun _ => 0))) ∧ (u.2.2 3 = .inr (2, [.ref (u.2.1 4), .int 0]) ∧ u.2.2 4 = .inl (cI, 100, .inl (fun _ => 0))) ∧ (u.2.2 5 = .inr (2, [.ref (u.2.1 6), .int 0]) ∧ u.2.2 6 = .inl (cI, 100, .inl (fun _ => 0)))
theorem k_Scr_init (l : Launch) (D : va_G) (cI cL cS : ClassId) : CT l yX4_init wsX4_init ({ frames := 3, cells := 6, slots := 306, locals := 120 }) D (tC cI cL cS) 4 [.null, .null, .null] [] (PScr cI) 6 306 := by
  refine mk_ctor (cc := cX4_init) (own := RX4) (maxL := 1) (fun h0 => [(0, .ref h0)]) (by decide) rfl rfl rfl (fun _ => Nat.le_of_ble_eq_true rfl) (fun _ => rfl) (fun _ => rfl) ?_
  intro h0 p e s m args below meth c X hr hin hO
  have hts := X.2.2.2.2.1
  refine g_aload_n X 0 dX4_init_0 rfl rfl ?_
  refine g_objInit X (by decide +kernel) (by decide +kernel) (by decide +kernel) (Nat.le_of_ble_eq_true rfl) (Nat.le_of_ble_eq_true rfl) dX4_init_1 ?_
  refine g_aload_n X 0 dX4_init_4 rfl rfl ?_
  refine g_new X (C := RX2) (T := TX2) (N := 2) (ci := 2) (fs := [.null, .int 0]) (by decide +kernel) tyX2_ok (by decide +kernel) (by decide +kernel) (by decide +kernel) rfl (fun j hj => by rcases (show j = 0 ∨ j = 1 by omega) with rfl | rfl <;> rfl) (by decide) (by decide) dX4_init_5 (fun q1 => ?_)
  refine g_dup X rfl dX4_init_8 ?_
  refine g_bipush X (v := nI 100) rfl dX4_init_9 ?_
  refine g_callI X hO [.int (nI 100)] (k_Line_init l D cI cL cS (n := 100) (by omega)) rfl rfl (cwI 1 hts gX4_init_X2_init rfl rfl rfl (hts _ (by decide +kernel)) (hts _ (by decide +kernel)) (hts _ (by decide +kernel)) rfl (by decide +kernel) ⟨Nat.le_of_ble_eq_true rfl, Nat.le_of_ble_eq_true rfl⟩) rfl rfl (Nat.le_of_ble_eq_true rfl) (by decide) (by decide) dX4_init_11 (fun u1 hu1 hq1 => ?_)
  obtain ⟨n1, ad1, E1⟩ := u1
  obtain ⟨rfl, a1, b1⟩ := hu1
  dsimp only at hq1 a1 b1 ⊢
  replace hq1 : ad1 0 = q1 := hq1
  refine g_putF X hin (k := 0) (fs := [.null, .null, .null]) (ci := 4) (C := RX4) (T := TX4) (NN := 3) (by omega) rfl (by decide +kernel) tyX4_ok nmX4 rfl 0 (by decide) (by decide +kernel) rfl rfl rfl rfl rfl rfl (Nat.le_of_ble_eq_true rfl) dX4_init_14 ?_
  refine g_aload_n X 0 dX4_init_17 rfl rfl ?_
  refine g_new X (C := RX2) (T := TX2) (N := 2) (ci := 2) (fs := [.null, .int 0]) (by decide +kernel) tyX2_ok (by decide +kernel) (by decide +kernel) (by decide +kernel) rfl (fun j hj => by rcases (show j = 0 ∨ j = 1 by omega) with rfl | rfl <;> rfl) (by decide) (by decide) dX4_init_18 (fun q2 => ?_)
  refine g_dup X rfl dX4_init_21 ?_
  refine g_bipush X (v := nI 100) rfl dX4_init_22 ?_
  refine g_callI X hO [.int (nI 100)] (k_Line_init l D cI cL cS (n := 100) (by omega)) rfl rfl (cwI 1 hts gX4_init_X2_init rfl rfl rfl (hts _ (by decide +kernel)) (hts _ (by decide +kernel)) (hts _ (by decide +kernel)) rfl (by decide +kernel) ⟨Nat.le_of_ble_eq_true rfl, Nat.le_of_ble_eq_true rfl⟩) rfl rfl (Nat.le_of_ble_eq_true rfl) (by decide) (by decide) dX4_init_24 (fun u2 hu2 hq2 => ?_)
  obtain ⟨n2, ad2, E2⟩ := u2
  obtain ⟨rfl, a2, b2⟩ := hu2
  dsimp only at hq2 a2 b2 ⊢
  replace hq2 : ad2 0 = q2 := hq2
  refine g_putF X hin (k := 0) (fs := [.ref q1, .null, .null]) (ci := 4) (C := RX4) (T := TX4) (NN := 3) (by omega) rfl (by decide +kernel) tyX4_ok nmX4 rfl 1 (by decide) (by decide +kernel) rfl rfl rfl rfl rfl rfl (Nat.le_of_ble_eq_true rfl) dX4_init_27 ?_
  refine g_aload_n X 0 dX4_init_30 rfl rfl ?_
  refine g_new X (C := RX2) (T := TX2) (N := 2) (ci := 2) (fs := [.null, .int 0]) (by decide +kernel) tyX2_ok (by decide +kernel) (by decide +kernel) (by decide +kernel) rfl (fun j hj => by rcases (show j = 0 ∨ j = 1 by omega) with rfl | rfl <;> rfl) (by decide) (by decide) dX4_init_31 (fun q3 => ?_)
  refine g_dup X rfl dX4_init_34 ?_
  refine g_bipush X (v := nI 100) rfl dX4_init_35 ?_
  refine g_callI X hO [.int (nI 100)] (k_Line_init l D cI cL cS (n := 100) (by omega)) rfl rfl (cwI 1 hts gX4_init_X2_init rfl rfl rfl (hts _ (by decide +kernel)) (hts _ (by decide +kernel)) (hts _ (by decide +kernel)) rfl (by decide +kernel) ⟨Nat.le_of_ble_eq_true rfl, Nat.le_of_ble_eq_true rfl⟩) rfl rfl (Nat.le_of_ble_eq_true rfl) (by decide) (by decide) dX4_init_37 (fun u3 hu3 hq3 => ?_)
  obtain ⟨n3, ad3, E3⟩ := u3
  obtain ⟨rfl, a3, b3⟩ := hu3
  dsimp only at hq3 a3 b3 ⊢
  replace hq3 : ad3 0 = q3 := hq3
  refine g_putF X hin (k := 0) (fs := [.ref q1, .ref q2, .null]) (ci := 4) (C := RX4) (T := TX4) (NN := 3) (by omega) rfl (by decide +kernel) tyX4_ok nmX4 rfl 2 (by decide) (by decide +kernel) rfl rfl rfl rfl rfl rfl (Nat.le_of_ble_eq_true rfl) dX4_init_40 ?_
  refine g_vret X hr ⟨rfl, ?_, ⟨?_, b1⟩, ⟨?_, b2⟩, ⟨?_, b3⟩⟩ rfl dX4_init_43
  · show (.inr (4, [.ref q1, .ref q2, .ref q3]) : va_E) = .inr (4, [.ref (ad1 0), .ref (ad2 0), .ref (ad3 0)])
    rw [hq1, hq2, hq3]
  · exact a1
  · exact a2
  · exact a3
/-- the network: the object, the line of gaps -/
def PNet (cI : ClassId) (s0 c0 : Nat) : WW3 → Prop := fun u => u.1 = 3 ∧ u.2.2 0 = .inr (3, [.ref s0, .ref c0, .ref (u.2.1 1)]) ∧ u.2.2 1 = .inr (2, [.ref (u.2.1 2), .int 0]) ∧ u.2.2 2 = .inl (cI, 96, .inl (fun _ => 0))
theorem k_Net_init (l : Launch) (D : va_G) (cI cL cS : ClassId) (s0 c0 : Nat) : CT l yX3_init wsX3_init ({ frames := 3, cells := 2, slots := 98, locals := 120 }) D (tC cI cL cS) 3 [.null, .null, .null] [.ref s0, .ref c0] (PNet cI s0 c0) 2 98 := by
  refine mk_ctor (cc := cX3_init) (own := RX3) (maxL := 3) (fun h0 => [(0, .ref h0), (1, .ref s0), (2, .ref c0)]) (by decide) rfl rfl rfl (fun _ => Nat.le_of_ble_eq_true rfl) (fun _ => rfl) (fun _ => rfl) ?_
  intro h0 p e s m args below meth c X hr hin hO
  have hts := X.2.2.2.2.1
  refine g_aload_n X 0 dX3_init_0 rfl rfl ?_
  refine g_objInit X (by decide +kernel) (by decide +kernel) (by decide +kernel) (Nat.le_of_ble_eq_true rfl) (Nat.le_of_ble_eq_true rfl) dX3_init_1 ?_
  refine g_aload_n X 0 dX3_init_4 rfl rfl ?_
  refine g_new X (C := RX2) (T := TX2) (N := 2) (ci := 2) (fs := [.null, .int 0]) (by decide +kernel) tyX2_ok (by decide +kernel) (by decide +kernel) (by decide +kernel) rfl (fun j hj => by rcases (show j = 0 ∨ j = 1 by omega) with rfl | rfl <;> rfl) (by decide) (by decide) dX3_init_5 (fun q1 => ?_)
  refine g_dup X rfl dX3_init_8 ?_
  refine g_bipush X (v := nI 96) rfl dX3_init_9 ?_
  refine g_callI X hO [.int (nI 96)] (k_Line_init l D cI cL cS (n := 96) (by omega)) rfl rfl (cwI 1 hts gX3_init_X2_init rfl rfl rfl (hts _ (by decide +kernel)) (hts _ (by decide +kernel)) (hts _ (by decide +kernel)) rfl (by decide +kernel) ⟨Nat.le_of_ble_eq_true rfl, Nat.le_of_ble_eq_true rfl⟩) rfl rfl (Nat.le_of_ble_eq_true rfl) (by decide) (by decide) dX3_init_11 (fun u1 hu1 hq1 => ?_)
  obtain ⟨n1, ad1, E1⟩ := u1
  obtain ⟨rfl, a1, b1⟩ := hu1
  dsimp only at hq1 a1 b1 ⊢
  replace hq1 : ad1 0 = q1 := hq1
  refine g_putF X hin (k := 0) (fs := [.null, .null, .null]) (ci := 3) (C := RX3) (T := TX3) (NN := 3) (by omega) rfl (by decide +kernel) tyX3_ok nmX3 rfl 2 (by decide) (by decide +kernel) rfl rfl rfl rfl rfl rfl (Nat.le_of_ble_eq_true rfl) dX3_init_14 ?_
  refine g_aload_n X 0 dX3_init_17 rfl rfl ?_
  refine g_aload_n X 1 dX3_init_18 rfl rfl ?_
  refine g_putF X hin (k := 0) (fs := [.null, .null, .ref q1]) (ci := 3) (C := RX3) (T := TX3) (NN := 3) (by omega) rfl (by decide +kernel) tyX3_ok nmX3 rfl 0 (by decide) (by decide +kernel) rfl rfl rfl rfl rfl rfl (Nat.le_of_ble_eq_true rfl) dX3_init_19 ?_
  refine g_aload_n X 0 dX3_init_22 rfl rfl ?_
  refine g_aload_n X 2 dX3_init_23 rfl rfl ?_
  refine g_putF X hin (k := 0) (fs := [.ref s0, .null, .ref q1]) (ci := 3) (C := RX3) (T := TX3) (NN := 3) (by omega) rfl (by decide +kernel) tyX3_ok nmX3 rfl 1 (by decide) (by decide +kernel) rfl rfl rfl rfl rfl rfl (Nat.le_of_ble_eq_true rfl) dX3_init_24 ?_
  refine g_vret X hr ⟨rfl, ?_, a1, b1⟩ rfl dX3_init_27
  show (.inr (3, [.ref s0, .ref c0, .ref q1]) : va_E) = .inr (3, [.ref s0, .ref c0, .ref (ad1 0)])
  rw [hq1]
