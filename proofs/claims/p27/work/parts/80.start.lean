/-! ===== the law from its entry ===== -/
set_option maxRecDepth 20000 in
theorem nF_in : ∀ t ∈ nF, Cond.fieldLinkNest t.1 t.2.1 t.2.2.1 t.2.2.2.1 t.2.2.2.2.1 t.2.2.2.2.2 ∈ lw_tbl := by decide +kernel
set_option maxRecDepth 20000 in
theorem nM_in : ∀ t ∈ nM, Cond.methodLinkNest t.1 t.2.1 t.2.2.1 t.2.2.2 ∈ lw_tbl := by decide +kernel
theorem nw_law {args : Array Value} {s : State} (hts : ∀ w ∈ lw_tbl, w.before args s = true) : NW s := ⟨fun t ht => va_Nw.of rfl (hts _ (nF_in t ht)), fun t ht => va_Nw.of rfl (hts _ (nM_in t ht))⟩
theorem kn_law {args : Array Value} {s : State} (hts : ∀ w ∈ lw_tbl, w.before args s = true) : ∃ D : va_G, ∀ (k : Nat) (q : vw_C), vwCl[k]? = some q → u_Kn s q.1 q.2.1 q.2.2 (D.1 k) (D.2 k) := by
  obtain ⟨c0, i0, h0⟩ := u_known (C := RX0) (T := TX0) (N := 3) (n := 3) hts wsX00_in (hts (.instantiable RX0 3) (by decide +kernel))
  obtain ⟨c1, i1, h1⟩ := u_known (C := RX1) (T := TX1) (N := 3) (n := 3) hts wsX10_in (hts (.instantiable RX1 3) (by decide +kernel))
  obtain ⟨c2, i2, h2⟩ := u_known (C := RX2) (T := TX2) (N := 2) (n := 2) hts wsX20_in (hts (.instantiable RX2 2) (by decide +kernel))
  obtain ⟨c3, i3, h3⟩ := u_known (C := RX3) (T := TX3) (N := 3) (n := 3) hts wsX30_in (hts (.instantiable RX3 3) (by decide +kernel))
  obtain ⟨c4, i4, h4⟩ := u_known (C := RX4) (T := TX4) (N := 3) (n := 3) hts wsX40_in (hts (.instantiable RX4 3) (by decide +kernel))
  obtain ⟨c5, i5, h5⟩ := u_known (C := RX5) (T := TX5) (N := 16) (n := 16) hts wsX50_in (hts (.instantiable RX5 16) (by decide +kernel))
  obtain ⟨c6, i6, h6⟩ := u_known (C := RX7) (T := TX7) (N := 6) (n := 6) hts wsX70_in (hts (.instantiable RX7 6) (by decide +kernel))
  refine ⟨(fun k => if k = 0 then c0 else if k = 1 then c1 else if k = 2 then c2 else if k = 3 then c3 else if k = 4 then c4 else if k = 5 then c5 else c6, fun k => if k = 0 then i0 else if k = 1 then i1 else if k = 2 then i2 else if k = 3 then i3 else if k = 4 then i4 else if k = 5 then i5 else i6), ?_⟩
  intro k q hq
  match k, hq with
  | 0, hq => cases hq; exact h0
  | 1, hq => cases hq; exact h1
  | 2, hq => cases hq; exact h2
  | 3, hq => cases hq; exact h3
  | 4, hq => cases hq; exact h4
  | 5, hq => cases hq; exact h5
  | 6, hq => cases hq; exact h6
  | k + 7, hq => simp [vwCl] at hq
theorem ar_law {args : Array Value} {s : State} (hts : ∀ w ∈ lw_tbl, w.before args s = true) : ∃ cI cL cS : ClassId, ∀ (k : Nat) (q : ClassId × FieldType), (tC cI cL cS)[k]? = some q → ArrOfT s q.1 q.2 ∧ va_RA s q.1 q.2 := by
  obtain ⟨cI, kI, c1, hI1, hI2, hI3⟩ := Cond.arrayClass_spec (hts (.arrayClass .int) (by decide +kernel))
  obtain ⟨dL, cL, kL, hL1, hL2, hL3, hL4, hL5⟩ := Cond.arrayOver_spec (hts (.arrayOver (.object "ProxyVersions$Line")) (by decide +kernel))
  obtain ⟨dS, cS, kS, hS1, hS2, hS3, hS4, hS5⟩ := Cond.arrayOver_spec (hts (.arrayOver (.object "ProxyVersions$State")) (by decide +kernel))
  refine ⟨cI, cL, cS, ?_⟩
  intro k q hq
  match k, hq with
  | 0, hq => cases hq; exact ⟨fun n z => ⟨(fun k h => by cases h), kI, hI2, c1, hI3⟩, hI1⟩
  | 1, hq => cases hq; exact ⟨fun n z => ⟨(fun k h => by cases h), kL, hL3, dL, hL4⟩, ⟨kL, dL, hL3, hL4, hL1, hL5⟩⟩
  | 2, hq => cases hq; exact ⟨fun n z => ⟨(fun k h => by cases h), kS, hS3, dS, hS4⟩, ⟨kS, dS, hS3, hS4, hS1, hS5⟩⟩
  | k + 3, hq => simp at hq
theorem st_len : LK 497 (va_up (va_up (va_up (va_up (va_up (va_up (va_up (fun _ => 0) 490 24) 491 32) 492 48) 493 52) 494 52) 495 52) 496 50) := by
  refine ⟨Nat.le_refl _, ?_, ?_, ?_, ?_, ?_, ?_, ?_⟩ <;> simp [va_up]
/-- seven rows, one behind the other -/
def w7C : Wd := va_up (va_up (va_up (va_up (va_up (va_up (va_up w0C 490 (fun _ => 0)) 491 (fun _ => 0)) 492 (fun _ => 0)) 493 (fun _ => 0)) 494 (fun _ => 0)) 495 (fun _ => 0)) 496 (fun _ => 0)
theorem w7_lo {k : Nat} (h : k < 490) : w7C k = w0C k := by
  unfold w7C
  rw [up_n (by omega), up_n (by omega), up_n (by omega), up_n (by omega), up_n (by omega), up_n (by omega), up_n (by omega)]
theorem w7_hi {k : Nat} (h1 : 490 ≤ k) (h2 : k < 497) (j : Nat) : w7C k j = 0 := by
  rcases (show k = 490 ∨ k = 491 ∨ k = 492 ∨ k = 493 ∨ k = 494 ∨ k = 495 ∨ k = 496 by omega) with rfl | rfl | rfl | rfl | rfl | rfl | rfl <;> simp [w7C, va_up]
theorem WW_LC {cI cL cS : ClassId} {ad : Nat → Nat} {len : Nat → Nat} {w : Wd} : WW 490 ad (cellL cI cL cS ad len) w = WW 490 ad (cellC cI cL cS ad) w := by
  show (List.range 490).map _ = (List.range 490).map _
  apply List.map_congr_left
  intro k hk
  rw [cellL, if_pos (List.mem_range.mp hk)]
section START
variable {p : Program} {l : Launch} {e : Env} {s : State} {m : MethodId} {below : List Frame} {meth : Method} {c : Code} {D : va_G} {cI cL cS : ClassId} {aC ad0 len0 : Nat → Nat} {b L : Nat} {xs : Nat → Int32}
set_option maxRecDepth 100000 in
set_option maxHeartbeats 4000000 in
/-- from the seven rows on -/
theorem law_rows (X : VX p s m #[Value.ref b] c cL_law 13 RL wsL_law D cI cL cS aC 0 ad0 len0 490 aC (fun _ => 0)) (Y : RX meth (some .boolean)) (hx : LX0 s b L xs 0) (hL : L < 2 ^ 31) (hi : Cond.arrayClass .int ∈ wsL_law) : VJ p l e room_1 s m #[Value.ref b] below meth c (lw_Z below #[Value.ref b] s) 13 D cI cL cS aC 0 ad0 490 aC (fun _ => 0) 1000 20000 w0C 8 [(0, .ref b), (1, .ref (aC 472))] [] := by
  obtain ⟨w', hf⟩ := l_law (w := w7C) (L := L) (xs := xs) hL (fc_fr FC0 (fun k hk => w7_lo hk)) (fun k h1 h2 j => w7_hi h1 h2 j) (N := 497) (Nat.le_refl _)
  refine v_bipush X (v := (nI 24)) (by decide) dL_law_8 ?_
  obtain ⟨w1, e1⟩ : ∃ w, w = va_up w0C 490 (fun _ => 0) := ⟨_, rfl⟩
  refine v_newi (N := 490) X hi (n := nI 24) (N' := 24) (by decide) rfl (Nat.le_of_ble_eq_true rfl) (by omega) (Nat.le_trans (m := 100000) (by omega) room_c) (Nat.le_trans (m := 1000000) (by omega) room_s) dL_law_10 e1 (fun a1 X h1 => ?_)
  rw [h1 472 (by omega)]
  refine v_astore_n (lv' := [(0, .ref b), (1, .ref (a1 472)), (2, .ref (a1 490))]) X dL_law_12 rfl (by decide) rfl ?_
  refine v_bipush X (v := (nI 32)) (by decide) dL_law_13 ?_
  obtain ⟨w2, e2⟩ : ∃ w, w = va_up w1 491 (fun _ => 0) := ⟨_, rfl⟩
  refine v_newi (N := 491) X hi (n := nI 32) (N' := 32) (by decide) rfl (Nat.le_of_ble_eq_true rfl) (by omega) (Nat.le_trans (m := 100000) (by omega) room_c) (Nat.le_trans (m := 1000000) (by omega) room_s) dL_law_15 e2 (fun a2 X h2 => ?_)
  rw [h2 472 (by omega), h2 490 (by omega)]
  refine v_astore_n (lv' := [(0, .ref b), (1, .ref (a2 472)), (2, .ref (a2 490)), (3, .ref (a2 491))]) X dL_law_17 rfl (by decide) rfl ?_
  refine v_bipush X (v := (nI 48)) (by decide) dL_law_18 ?_
  obtain ⟨w3, e3⟩ : ∃ w, w = va_up w2 492 (fun _ => 0) := ⟨_, rfl⟩
  refine v_newi (N := 492) X hi (n := nI 48) (N' := 48) (by decide) rfl (Nat.le_of_ble_eq_true rfl) (by omega) (Nat.le_trans (m := 100000) (by omega) room_c) (Nat.le_trans (m := 1000000) (by omega) room_s) dL_law_20 e3 (fun a3 X h3 => ?_)
  rw [h3 472 (by omega), h3 490 (by omega), h3 491 (by omega)]
  refine v_astore (lv' := [(0, .ref b), (1, .ref (a3 472)), (2, .ref (a3 490)), (3, .ref (a3 491)), (4, .ref (a3 492))]) X dL_law_22 (by decide) rfl ?_
  refine v_bipush X (v := (nI 52)) (by decide) dL_law_24 ?_
  obtain ⟨w4, e4⟩ : ∃ w, w = va_up w3 493 (fun _ => 0) := ⟨_, rfl⟩
  refine v_newi (N := 493) X hi (n := nI 52) (N' := 52) (by decide) rfl (Nat.le_of_ble_eq_true rfl) (by omega) (Nat.le_trans (m := 100000) (by omega) room_c) (Nat.le_trans (m := 1000000) (by omega) room_s) dL_law_26 e4 (fun a4 X h4 => ?_)
  rw [h4 472 (by omega), h4 490 (by omega), h4 491 (by omega), h4 492 (by omega)]
  refine v_astore (lv' := [(0, .ref b), (1, .ref (a4 472)), (2, .ref (a4 490)), (3, .ref (a4 491)), (4, .ref (a4 492)), (5, .ref (a4 493))]) X dL_law_28 (by decide) rfl ?_
  refine v_bipush X (v := (nI 52)) (by decide) dL_law_30 ?_
  obtain ⟨w5, e5⟩ : ∃ w, w = va_up w4 494 (fun _ => 0) := ⟨_, rfl⟩
  refine v_newi (N := 494) X hi (n := nI 52) (N' := 52) (by decide) rfl (Nat.le_of_ble_eq_true rfl) (by omega) (Nat.le_trans (m := 100000) (by omega) room_c) (Nat.le_trans (m := 1000000) (by omega) room_s) dL_law_32 e5 (fun a5 X h5 => ?_)
  rw [h5 472 (by omega), h5 490 (by omega), h5 491 (by omega), h5 492 (by omega), h5 493 (by omega)]
  refine v_astore (lv' := [(0, .ref b), (1, .ref (a5 472)), (2, .ref (a5 490)), (3, .ref (a5 491)), (4, .ref (a5 492)), (5, .ref (a5 493)), (6, .ref (a5 494))]) X dL_law_34 (by decide) rfl ?_
  refine v_bipush X (v := (nI 52)) (by decide) dL_law_36 ?_
  obtain ⟨w6, e6⟩ : ∃ w, w = va_up w5 495 (fun _ => 0) := ⟨_, rfl⟩
  refine v_newi (N := 495) X hi (n := nI 52) (N' := 52) (by decide) rfl (Nat.le_of_ble_eq_true rfl) (by omega) (Nat.le_trans (m := 100000) (by omega) room_c) (Nat.le_trans (m := 1000000) (by omega) room_s) dL_law_38 e6 (fun a6 X h6 => ?_)
  rw [h6 472 (by omega), h6 490 (by omega), h6 491 (by omega), h6 492 (by omega), h6 493 (by omega), h6 494 (by omega)]
  refine v_astore (lv' := [(0, .ref b), (1, .ref (a6 472)), (2, .ref (a6 490)), (3, .ref (a6 491)), (4, .ref (a6 492)), (5, .ref (a6 493)), (6, .ref (a6 494)), (7, .ref (a6 495))]) X dL_law_40 (by decide) rfl ?_
  refine v_bipush X (v := (nI 50)) (by decide) dL_law_42 ?_
  obtain ⟨w7, e7⟩ : ∃ w, w = va_up w6 496 (fun _ => 0) := ⟨_, rfl⟩
  refine v_newi (N := 496) X hi (n := nI 50) (N' := 50) (by decide) rfl (Nat.le_of_ble_eq_true rfl) (by omega) (Nat.le_trans (m := 100000) (by omega) room_c) (Nat.le_trans (m := 1000000) (by omega) room_s) dL_law_44 e7 (fun a7 X h7 => ?_)
  rw [h7 472 (by omega), h7 490 (by omega), h7 491 (by omega), h7 492 (by omega), h7 493 (by omega), h7 494 (by omega), h7 495 (by omega)]
  refine v_astore (lv' := [(0, .ref b), (1, .ref (a7 472)), (2, .ref (a7 490)), (3, .ref (a7 491)), (4, .ref (a7 492)), (5, .ref (a7 493)), (6, .ref (a7 494)), (7, .ref (a7 495)), (8, .ref (a7 496))]) X dL_law_46 (by decide) rfl ?_
  have e : w7 = w7C := by rw [e7, e6, e5, e4, e3, e2, e1]; rfl
  rw [e]
  exact t_L_law_j48 X Y st_len hx rfl (by omega) (by omega) hf
end START
set_option maxHeartbeats 4000000 in
/-- THE LAW, from its entry -/
theorem whole_start {p : Program} {e : Env} {s : State} {m : MethodId} {below : List Frame} {meth : Method} {c : Code} (l : Launch) (hflags : l.flags = flags0) {b L : Nat} {xs : Nat → Int32} (hL : L ≤ 260) (C0 : lw_At p s m meth c b L xs) : W p l e room_1 s m #[Value.ref b] below meth c s.heap [] 0 0 (lw_Z below #[Value.ref b] s) (entryFrame m ([Value.ref b] : List Value).toArray 13) := by
  obtain ⟨hx, hb, hr, hml, hown, hts0, hX, hbl, hlocks, hgv⟩ := id C0
  have hts : ∀ w ∈ wsL_law, w.before #[Value.ref b] s = true := fun w h => hts0 w (wsL_law_in w h)
  obtain ⟨D, hKc⟩ := kn_law hts0
  obtain ⟨cI, cL, cS, hKa⟩ := ar_law hts0
  have hK : va_K D vwCl (tC cI cL cS) s := ⟨hKc, hKa⟩
  have hO : AO2 s := ⟨va_AO.of (hts0 (.arrayOver (.object "ProxyVersions$Line")) (by decide +kernel)), va_AO.of (hts0 (.arrayOver (.object "ProxyVersions$State")) (by decide +kernel)), nw_law hts0⟩
  have X : GX p s m #[Value.ref b] meth c cL_law 13 RL wsL_law D (tC cI cL cS) (fun q : Nat => s.heap.size ≤ q) := ⟨hx, hb, hml, hown, hts, hK, fun _ h => h, hlocks⟩
  have hl := lv_entry ([.ref b]) (n := 13) (Nat.le_of_ble_eq_true rfl)
  rw [lg_entry_eq]
  generalize (lg_sl ([.ref b]) ++ List.replicate (13 - (lg_sl ([.ref b])).length) Slot.unset).toArray = ls at hl ⊢
  have hl2 : lh ls 13 [(0, .ref b)] := ⟨hl, fun q hq => by cases hq with
    | head => rfl
    | tail _ h => cases h⟩
  have G : GJ p l e room_1 s m #[Value.ref b] below meth c (lw_Z below #[Value.ref b] s) 13 D (fun q : Nat => s.heap.size ≤ q) 0 (fun _ => 0) (fun _ => .inr (0, [])) 0 0 0 [(0, .ref b)] [] := by
    refine g_new X (C := RX7) (T := TX7) (N := 6) (ci := 6) (fs := [.null, .null, .null, .null, .null, .null]) (by decide +kernel) tyX7_ok (by decide +kernel) (by decide +kernel) (by decide +kernel) rfl (fun j hj => by rcases (show j = 0 ∨ j = 1 ∨ j = 2 ∨ j = 3 ∨ j = 4 ∨ j = 5 by omega) with rfl | rfl | rfl | rfl | rfl | rfl <;> rfl) (Nat.le_of_ble_eq_true rfl) (Nat.le_of_ble_eq_true rfl) dL_law_0 (fun q0 => ?_)
    refine g_dup X rfl dL_law_3 ?_
    refine g_callN X hO (n2 := 490) [] (k_PV_init l D cI cL cS) (fun u hu => hu.1) (up_s _ _ _) (up_s _ _ _) (cwI 0 hts gL_law_X7_init rfl rfl rfl (hts _ (by decide +kernel)) (hts _ (by decide +kernel)) (hts _ (by decide +kernel)) rfl (by decide +kernel) ⟨Nat.le_of_ble_eq_true rfl, Nat.le_of_ble_eq_true rfl⟩) rfl rfl (Nat.le_of_ble_eq_true rfl) (Nat.le_of_ble_eq_true rfl) (Nat.le_of_ble_eq_true rfl) dL_law_4 (fun ad2 E2 hk2 hu2 => ?_)
    obtain ⟨⟨_, adx, Ex⟩, po1, hq1, f1⟩ := hu2
    refine g_astore_n X (lv' := [(0, .ref b), (1, .ref q0)]) dL_law_7 rfl (by decide) rfl ?_
    refine g_widen (k := 1000) (n := 20000) (Nat.le_of_ble_eq_true rfl) (Nat.le_of_ble_eq_true rfl) ?_
    have A1 : ∀ k, k < 490 → ad2 k = adx k ∧ E2 k = Ex k := fun k h => by
      have b := f1 k h
      rw [Nat.zero_add] at b
      exact ⟨b.1, b.2⟩
    have e0 : ad2 0 = q0 := (A1 0 (by omega)).1.trans hq1
    intro H locs ls hP hD hS hl
    have hj : ∀ {i j : Nat}, i < 490 → j < 490 → ad2 i = ad2 j → i = j := fun {i j} hi hj he => hD.1 i j _ _ (GW_get (by omega)) (GW_get (by omega)) he
    have hge : ∀ {i : Nat}, i < 490 → s.heap.size ≤ ad2 i := fun {i} hi => hD.2 i _ (GW_get (by omega))
    have hPC : va_P D vwCl (WW 490 (adP ad2) (cellC cI cL cS (adP ad2)) w0C) H := by
      refine cv_C (E := E2) (fun j hj => hP j _ (GW_get (by omega))) ?_
      have po := po1.2
      obtain ⟨z0, st, ⟨ca, cb, cc⟩, ⟨ne, nl⟩, hi, tx, sc, s0, s1, s2⟩ := po
      have mv : ∀ (k : Nat), k < 490 → ad2 k = adx k ∧ E2 k = Ex k := A1
      refine ⟨?_, st.mv (fun k hk => mv _ (by omega)), ⟨?_, (mv 61 (by omega)).2.trans cb, (mv 62 (by omega)).2.trans cc⟩, ⟨?_, nl.mv (fun k hk => mv _ (by omega))⟩, hi.mv (fun k hk => mv _ (by omega)), tx.mv (fun k hk => mv _ (by omega)), ?_, s0.mv (fun k hk => mv _ (by omega)), s1.mv (fun k hk => mv _ (by omega)), s2.mv (fun k hk => mv _ (by omega))⟩
      · rw [(mv 0 (by omega)).2, (mv 1 (by omega)).1, (mv 60 (by omega)).1, (mv 63 (by omega)).1, (mv 66 (by omega)).1, (mv 481 (by omega)).1, (mv 483 (by omega)).1]; exact z0
      · rw [(mv 60 (by omega)).2, (mv 1 (by omega)).1, (mv 61 (by omega)).1, (mv 62 (by omega)).1]; exact ca
      · rw [(mv 63 (by omega)).2, (mv 1 (by omega)).1, (mv 60 (by omega)).1, (mv 64 (by omega)).1]; exact ne
      · rw [(mv 483 (by omega)).2, (mv 484 (by omega)).1, (mv 486 (by omega)).1, (mv 488 (by omega)).1]; exact sc
    have hinj : Inj 490 (adP ad2) := fun i j hi hj2 he => prm_inj hi hj2 (hj (prm_ok i hi).1 (prm_ok j hj2).1 he)
    have XV : VX p s m #[Value.ref b] c cL_law 13 RL wsL_law D cI cL cS (adP ad2) 0 (fun _ => 0) (fun _ => 0) 490 (adP ad2) (fun _ => 0) := ⟨hx, hb, hml, hown, hts, hK, nw_law hts0, hinj, ⟨hinj, fun _ _ => rfl⟩, fun k hk => Or.inr (hge (prm_ok k hk).1), Nat.zero_le _, fun k hk => absurd hk (Nat.not_lt_zero k), fun k hk => absurd hk (Nat.not_lt_zero k)⟩
    have en := law_rows (l := l) (e := e) (below := below) (meth := meth) XV ⟨hr, hlocks⟩ ⟨rfl, hX, hbl⟩ (by omega) (by decide +kernel)
    have q0e : adP ad2 472 = q0 := e0
    rw [q0e] at en
    refine en H locs ls ?_ ⟨hS.1, fun q h1 h2 => hS.2.1 q h1 (fun h => h2 (Or.inr h)), fun q hq => Or.inr (hS.2.2 q hq)⟩ hl
    rw [WW_LC]
    exact hPC
  exact G s.heap [] ls (fun k q h => by simp [GW] at h) ⟨fun i j p q h => by simp [GW] at h, fun k q h => by simp [GW] at h⟩ va_S.rf hl2
set_option maxHeartbeats 4000000 in
theorem lw_walk (l : Launch) (hflags : l.flags = flags0) (b : Addr) (xs : List Int32) : MetFree l x (headSpec (Jvm.Cond.code x code maxLocals ret :: tables_1) room_1) (lw_P b xs) (fun _ _ _ _ _ => True) lw_Q := by
  refine MetFree.of_bodyS (code := code) (maxLocals := maxLocals) (ret := ret) (by decide) ?_ ?_
  · intro args s m h hn
    obtain ⟨meth, c, h1, h2, h3, h4, h5, h6, -, -⟩ := Cond.code_spec hn (atoms_spec (ws := Jvm.Cond.code x code maxLocals ret :: tables_1) h _ List.mem_cons_self)
    exact ⟨meth, c, h1, h2, h3, h4, h5, h6⟩
  · intro p e s m args below meth c s₁ B hml0 hP _
    obtain ⟨rfl, hx, hbd, hgv⟩ := hP
    obtain ⟨scr, harrAt, hlist, hof, hsmall⟩ := hx
    obtain ⟨hcb, hkn, -, -⟩ := State.arrayAt?_spec harrAt
    have hown : s.vm.findClass R_law = some m.cls := findClass_of_methodNamed B.named
    have hts0 : ∀ c ∈ (Jvm.Cond.code x code maxLocals ret :: tables_1), c.before #[Value.ref b] s = true := atoms_spec (ws := Jvm.Cond.code x code maxLocals ret :: tables_1) B.pre
    have hts : ∀ w ∈ lw_tbl, w.before #[Value.ref b] s = true := k2_hts_sels lw_privs (fun w hw => hts0 w (List.mem_cons_of_mem _ hw)) lw_privs_ok
    have hml : c.maxLocals = 13 := B.maxLocals_eq (hts0 _ List.mem_cons_self)
    have X₀ : Stand p l e room_1 s m #[Value.ref b] below meth c s₁ [] 0 0 := Stand.of_body B
    have hh0 : s₁.heap = s.heap := by rw [B.state]; rfl
    have hsz : scr.slots.size = xs.length := by rw [← Array.length_toList, hlist, List.length_map]
    have hval : ∀ j : Nat, j < xs.length → scr.slots[j]? = some (.int (xs.getD j 0)) := fun j hj => by
      rw [← Array.getElem?_toList, hlist]
      simp [hj]
    have hbl : b < s.heap.size := (Array.getElem?_eq_some_iff.mp hcb).1
    have hX : va_X b xs.length (fun j => xs.getD j 0) s s.heap := ⟨scr, hcb, hof, hkn, hsz, hval⟩
    have K : W p l e room_1 s m #[Value.ref b] below meth c s₁.heap [] 0 0 (lw_Z below #[Value.ref b] s) (entryFrame m ([Value.ref b] : List Value).toArray 13) := by
      rw [hh0]
      exact whole_start l hflags hbd ⟨B.exec, B.bytes, B.returns, hml, hown, hts, hX, hbl, B.notSynchronized, hgv⟩
    obtain ⟨t, a1, o, b1, b2, b3⟩ := K s₁ rfl X₀
    exact ⟨t, o, a1, b1, b2, b3⟩
theorem lw_pre_spec {args : Array Value} {s : State} (h : (Jvm.Cond.and given_1 narrow_1).before args s = true) (hr : rest_1_c.before args s = true) : ∃ (b : Addr) (xs : List Int32), lw_P b xs args s := by
  have hs := flat_of_before _ h
  have hq := flat_of_before _ hr
  have hc : (Cond.count 1).before args s = true := hs _ (by decide +kernel)
  have harr : (Cond.arrayOf (.arg 0) .int).before args s = true := hs _ (by decide +kernel)
  have hle : (Cond.le (.length (.arg 0)) (.int 260)).before args s = true := hs _ (by decide +kernel)
  have hlen : (Cond.isInt (.length (.arg 0))).before args s = true := hq _ (by decide +kernel)
  have hall : (Cond.all (.arg 0) (.isInt (.elem (.arg 0) (.index 0)))).before args s = true := hq _ (by decide +kernel)
  obtain ⟨b, xs, hb, hx⟩ := State.ints_of_pre rfl harr hlen hall
  have hsm : xs.length < 2 ^ 31 := hx.choose_spec.2.2.2
  have hev : (Term.length (.arg 0)).eval args s none [] s = some (.int xs.length.toInt32) := hx.length_eval hb
  have hv := Cond.le_ints hev (show (Term.int 260).eval args s none [] s = some (.int 260) from rfl)
  have hd : xs.length.toInt32 ≤ 260 := by
    simpa [Cond.before, Cond.holds, hv] using hle
  have hN : xs.length ≤ 260 := (Int32.ofNat_le_ofNat hsm (by decide)).mp (show Int32.ofNat xs.length ≤ Int32.ofNat 260 from hd)
  exact ⟨b, xs, Cond.one_arg hc (show args[0]? = some (.ref b) from hb), hx, hN, h⟩
theorem lw_comes (l : Launch) (hflags : l.flags = flags0) : Comes l x (Jvm.Cond.code x code maxLocals ret :: tables_1) room_1 (fun tb e args s => Calls_1 tb e args s ∧ rest_1 tb e args s ∧ Pre_1 tb e args s)
    (fun _ _ args s o t => lw_Q args s o t) := by
  intro p e ha hc hk s m args below hf hfit hheap happ hpre
  obtain ⟨b, xs, hP⟩ := lw_pre_spec hpre.2.2 hpre.2.1
  obtain ⟨k, o, h1, h2, h3, hQ⟩ := lw_walk l hflags b xs p e ha hc hk s m args below hf ((Spec.applies_iff_loose hf).mp happ).1 hP trivial
  exact ⟨k, o, h1, h2, h3, hQ⟩
theorem lw_frame {s t : State} {o : Outcome} {args : Array Value} (h : Framed s o t [] room_1.cells room_1.slots) :
    Framed s o t (fieldLocs frame_1_writes args s ++ arrayLocs frame_1_arrays args s ++ staticLocs frame_1_statics s) room_1.cells room_1.slots := h
theorem lw_limb (L : Cond) (hL : ∀ (args : Array Value) (s t : State), L.after args s (.returned (some (.int 1))) t = true) :
    ArmFor flags0 classFile x code maxLocals ret World_1 tables_1 room_1 Calls_1 rest_1 Pre_1
      (fun tb e a s o t => postC L tb e a s o t ∧ Framed s o t (fieldLocs frame_1_writes a s ++ arrayLocs frame_1_arrays a s ++ staticLocs frame_1_statics s) room_1.cells room_1.slots) := by
  intro l hflags _ _ p e ha hc hk s m args below hf hfit hheap happ hpre
  obtain ⟨k, o, h1, h2, h3, rfl, hF⟩ := lw_comes l hflags p e ha hc hk s m args below hf hfit hheap happ hpre
  exact ⟨k, _, h1, h2, h3, hL args s _, lw_frame hF⟩
theorem i_vc : Claimed_1_1 ∧ Claimed_1_2 := ⟨lw_limb limb_1_1 (fun args s t => by simp [limb_1_1, Cond.after, Cond.holds, Cond.value]), lw_limb limb_1_2 (fun args s t => Cond.after_iff.mpr (by
  first | (rw [show limb_1_2 = Cond.eq .result (.int 1) from rfl, Cond.eq_ints (x := 1) (y := 1) rfl rfl]; simp; done) | (simp [limb_1_2, Cond.value, Term.eval]; done)))⟩

