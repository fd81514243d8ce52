/-! ===== the worlds behind the constructors ===== -/
/-- the place in the growing world of a cell of the class's world -/
def prmS (r : Nat) : Nat := if r < 16 then 11 + 6 * (r / 2) + r % 2 else if r < 32 then 13 + 6 * ((r - 16) / 2) + r % 2 else if r < 48 then 15 + 6 * ((r - 32) / 2) + r % 2 else if r < 50 then 9 + (r - 48) else r - 50
def bz (z : Nat) : Nat := if z = 0 then 1 else 68 + 59 * (z - 1)
def prm (k : Nat) : Nat := if k < 472 then bz (k / 59) + prmS (k % 59) else if k = 472 then 0 else if k = 473 then 60 else if k = 474 then 61 else if k = 475 then 62 else if k = 476 then 63 else if k = 477 then 66 else if k = 478 then 67 else if k = 479 then 483 else if k = 480 then 64 else if k = 481 then 65 else if k = 482 then 481 else if k = 483 then 482 else k
def priS (j : Nat) : Nat := if j < 9 then 50 + j else if j < 11 then 48 + (j - 9) else if (j - 11) % 6 < 2 then 2 * ((j - 11) / 6) + (j - 11) % 6 else if (j - 11) % 6 < 4 then 16 + 2 * ((j - 11) / 6) + ((j - 11) % 6 - 2) else 32 + 2 * ((j - 11) / 6) + ((j - 11) % 6 - 4)
def pri (j : Nat) : Nat := if j = 0 then 472 else if j < 60 then priS (j - 1) else if j = 60 then 473 else if j = 61 then 474 else if j = 62 then 475 else if j = 63 then 476 else if j = 64 then 480 else if j = 65 then 481 else if j = 66 then 477 else if j = 67 then 478 else if j < 481 then 59 * ((j - 68) / 59 + 1) + priS ((j - 68) % 59) else if j = 481 then 482 else if j = 482 then 483 else if j = 483 then 479 else j
set_option maxRecDepth 20000 in
theorem prm_ok : ∀ k, k < 490 → prm k < 490 ∧ pri (prm k) = k := by decide +kernel
theorem prm_inj {i j : Nat} (hi : i < 490) (hj : j < 490) (e : prm i = prm j) : i = j := by
  have h1 := (prm_ok i hi).2
  rw [e, (prm_ok j hj).2] at h1
  exact h1.symm
set_option maxRecDepth 20000 in
theorem prm_l1 : ∀ z, z < 8 → ∀ j, j < 8 → prm (59 * z + 2 * j) = bz z + (11 + 6 * j) ∧ prm (59 * z + 2 * j + 1) = bz z + (11 + 6 * j) + 1 ∧ lroom (59 * z + 2 * j) = (if j = 0 then 96 else 13) := by decide +kernel
set_option maxRecDepth 20000 in
theorem prm_l2 : ∀ z, z < 8 → ∀ j, j < 8 → prm (59 * z + (16 + 2 * j)) = bz z + (13 + 6 * j) ∧ prm (59 * z + (16 + 2 * j) + 1) = bz z + (13 + 6 * j) + 1 ∧ lroom (59 * z + (16 + 2 * j)) = (if j = 0 then 0 else 12) := by decide +kernel
set_option maxRecDepth 20000 in
theorem prm_l3 : ∀ z, z < 8 → ∀ j, j < 8 → prm (59 * z + (32 + 2 * j)) = bz z + (15 + 6 * j) ∧ prm (59 * z + (32 + 2 * j) + 1) = bz z + (15 + 6 * j) + 1 ∧ lroom (59 * z + (32 + 2 * j)) = (if j = 0 then 0 else 12) := by decide +kernel
theorem prm_l4 : ∀ z, z < 8 → prm (59 * z + 48) = bz z + 9 ∧ prm (59 * z + 48 + 1) = bz z + 9 + 1 ∧ lroom (59 * z + 48) = 0 := by decide +kernel
theorem prm_s : ∀ z, z < 8 → ∀ j, j < 9 → prm (59 * z + (50 + j)) = bz z + j := by decide +kernel
theorem prm_q : ∀ j, j < 7 → prm (59 * (j + 1) + 50) = 66 + (2 + 59 * j) := by decide +kernel
def w0C : Wd := fun k j => if k < 472 ∧ k % 59 = 50 then (if j = 0 then 1 else if j = 1 then nI 8 else if j = 2 then nI 12 else 0) else 0
theorem w0_z {k : Nat} (h : ¬ (k < 472 ∧ k % 59 = 50)) : w0C k = fun _ => 0 := funext fun _ => if_neg h
theorem arrV_cong (cA : ClassId) {n : Nat} {f g : Nat → Value} (h : ∀ j, j < n → f j = g j) : arrV cA n f = arrV cA n g := by
  have e : (fun j : Fin n => f j.val) = fun j : Fin n => g j.val := funext fun j => h j.val j.isLt
  unfold arrV
  rw [e]
section CV
variable {D : va_G} {H : Heap} {ad : Nat → Nat} {E : Nat → va_E} {cI cL cS : ClassId}
abbrev adP (ad : Nat → Nat) : Nat → Nat := fun k => ad (prm k)
def OKc (D : va_G) (H : Heap) (cI cL cS : ClassId) (ad : Nat → Nat) (k : Nat) : Prop := va_at D vwCl (adP ad k, cellC cI cL cS (adP ad) k (w0C k)) H
theorem ok_eq (hP : ∀ j, j < 490 → va_at D vwCl (ad j, E j) H) {k : Nat} (hk : k < 490) (h : E (prm k) = cellC cI cL cS (adP ad) k (w0C k)) : OKc D H cI cL cS ad k := by
  have h9 := hP (prm k) (prm_ok k hk).1
  rw [h] at h9
  exact h9
theorem ok_q (hP : ∀ j, j < 490 → va_at D vwCl (ad j, E j) H) {k n : Nat} (hk : k < 490) {cA : ClassId} {f g : Nat → Option Nat} (h : E (prm k) = qArr cA n f) (h2 : cellC cI cL cS (adP ad) k (w0C k) = qArr cA n g) (e : ∀ j, j < n → f j = g j) : OKc D H cI cL cS ad k := by
  have h9 := hP (prm k) (prm_ok k hk).1
  unfold OKc
  rw [h2]
  rw [h] at h9
  have e9 : vp_cell cA (n, .inr (.inr (.inr (.inr g)))) = vp_cell cA (n, .inr (.inr (.inr (.inr f)))) := by
    rw [vp_cell_q, vp_cell_q]
    exact arrV_cong cA (fun j hj => by rw [e j hj])
  show H[adP ad k]? = some (vp_cell cA (n, .inr (.inr (.inr (.inr g)))))
  rw [e9]
  exact h9
theorem ok_ln (hP : ∀ j, j < 490 → va_at D vwCl (ad j, E j) H) {k b n : Nat} (h : isLn k) (hL : LnAt cI n b ad E) (p0 : prm k = b) (p1 : prm (k + 1) = b + 1) (hn : lroom k = n) : OKc D H cI cL cS ad k ∧ OKc D H cI cL cS ad (k + 1) := by
  have hk := (oLn (cI := cI) (cL := cL) (cS := cS) (ad := adP ad) h).1
  have hk1 := (iLn (cI := cI) (cL := cL) (cS := cS) (ad := adP ad) h).1
  have z0 : w0C k = fun _ => 0 := w0_z (by rcases h with ⟨a, b, c⟩ | ⟨a, b, c⟩ <;> omega)
  have z1 : w0C (k + 1) = fun _ => 0 := w0_z (by rcases h with ⟨a, b, c⟩ | ⟨a, b, c⟩ <;> omega)
  constructor
  · refine ok_eq hP hk ?_
    rw [(oLn h).2, p0, hL.1, z0]
    show (.inr (2, [.ref (ad (b + 1)), .int 0]) : va_E) = .inr (2, [.ref (ad (prm (k + 1))), .int 0])
    rw [p1]
  · refine ok_eq hP hk1 ?_
    rw [(iLn h).2, p1, hL.2, hn, z1]
theorem ok_st (hP : ∀ j, j < 490 → va_at D vwCl (ad j, E j) H) {z : Nat} (hz : z < 8) (hS : StIn cI cL (bz z) 8 ad E) (r : Nat) (hr : r < 59) : OKc D H cI cL cS ad (59 * z + r) := by
  obtain ⟨h0, h1, h2, h3, h4, h5, ⟨f6, h6, g6⟩, ⟨f7, h7, g7⟩, ⟨f8, h8, g8⟩, h9, hl⟩ := hS
  have P := prm_s z hz
  by_cases c1 : r < 16
  · obtain ⟨j, hj⟩ : ∃ j, r = 2 * j ∨ r = 2 * j + 1 := ⟨r / 2, by omega⟩
    have hj8 : j < 8 := by omega
    have q := prm_l1 z hz j hj8
    have o := ok_ln (cL := cL) (cS := cS) hP (isLn_z hz (by omega) (by omega)) (hl j hj8).1 q.1 q.2.1 q.2.2
    rcases hj with rfl | rfl
    · exact o.1
    · exact o.2
  by_cases c2 : r < 32
  · obtain ⟨j, hj⟩ : ∃ j, r = 16 + 2 * j ∨ r = 16 + 2 * j + 1 := ⟨(r - 16) / 2, by omega⟩
    have hj8 : j < 8 := by omega
    have q := prm_l2 z hz j hj8
    have o := ok_ln (cL := cL) (cS := cS) hP (isLn_z hz (by omega) (by omega)) (hl j hj8).2.1 q.1 q.2.1 q.2.2
    rcases hj with rfl | rfl
    · exact o.1
    · exact o.2
  by_cases c3 : r < 48
  · obtain ⟨j, hj⟩ : ∃ j, r = 32 + 2 * j ∨ r = 32 + 2 * j + 1 := ⟨(r - 32) / 2, by omega⟩
    have hj8 : j < 8 := by omega
    have q := prm_l3 z hz j hj8
    have o := ok_ln (cL := cL) (cS := cS) hP (isLn_z hz (by omega) (by omega)) (hl j hj8).2.2 q.1 q.2.1 q.2.2
    rcases hj with rfl | rfl
    · exact o.1
    · exact o.2
  by_cases c4 : r < 50
  · have q := prm_l4 z hz
    have o := ok_ln (cL := cL) (cS := cS) hP (lnSt48 hz) h9 q.1 q.2.1 q.2.2
    rcases (show r = 48 ∨ r = 49 by omega) with rfl | rfl
    · exact o.1
    · exact o.2
  have wz : ∀ j, 1 ≤ j → j < 9 → w0C (59 * z + (50 + j)) = fun _ => 0 := fun j j1 j9 => w0_z (by rw [md59 z (by omega)]; omega)
  have hk : 59 * z + r < 490 := by omega
  rcases (show r = 50 ∨ r = 51 ∨ r = 52 ∨ r = 53 ∨ r = 54 ∨ r = 55 ∨ r = 56 ∨ r = 57 ∨ r = 58 by omega) with rfl | rfl | rfl | rfl | rfl | rfl | rfl | rfl | rfl
  · refine ok_eq hP hk ?_
    rw [(oSt hz).2, show prm (59 * z + 50) = bz z + 0 from P 0 (by omega), h0]
    have wv : ∀ j, w0C (59 * z + 50) j = if j = 0 then 1 else if j = 1 then nI 8 else if j = 2 then nI 12 else 0 := fun j => if_pos ⟨by omega, by rw [md59 z (by omega)]⟩
    show (.inr (5, fS0 ad (bz z)) : va_E) = .inr (5, [.int (w0C (59 * z + 50) 0), .int (w0C (59 * z + 50) 1), .int (w0C (59 * z + 50) 2), .int (w0C (59 * z + 50) 3), .int (w0C (59 * z + 50) 4), .int (w0C (59 * z + 50) 5), .int (w0C (59 * z + 50) 6), .ref (ad (prm (59 * z + 51))), .ref (ad (prm (59 * z + 52))), .ref (ad (prm (59 * z + 53))), .ref (ad (prm (59 * z + 54))), .ref (ad (prm (59 * z + 55))), .ref (ad (prm (59 * z + 56))), .ref (ad (prm (59 * z + 57))), .ref (ad (prm (59 * z + 58))), .ref (ad (prm (59 * z + 48)))])
    rw [wv, wv, wv, wv, wv, wv, wv, show prm (59 * z + 51) = bz z + 1 from P 1 (by omega), show prm (59 * z + 52) = bz z + 2 from P 2 (by omega), show prm (59 * z + 53) = bz z + 3 from P 3 (by omega), show prm (59 * z + 54) = bz z + 4 from P 4 (by omega), show prm (59 * z + 55) = bz z + 5 from P 5 (by omega), show prm (59 * z + 56) = bz z + 6 from P 6 (by omega), show prm (59 * z + 57) = bz z + 7 from P 7 (by omega), show prm (59 * z + 58) = bz z + 8 from P 8 (by omega), (prm_l4 z hz).1]
    rfl
  · refine ok_eq hP hk ?_
    rw [(iSt51 hz).2, show prm (59 * z + 51) = bz z + 1 from P 1 (by omega), h1, show w0C (59 * z + 51) = fun _ => 0 from wz 1 (by omega) (by omega)]
  · refine ok_eq hP hk ?_
    rw [(iSt52 hz).2, show prm (59 * z + 52) = bz z + 2 from P 2 (by omega), h2, show w0C (59 * z + 52) = fun _ => 0 from wz 2 (by omega) (by omega)]
  · refine ok_eq hP hk ?_
    rw [(iSt53 hz).2, show prm (59 * z + 53) = bz z + 3 from P 3 (by omega), h3, show w0C (59 * z + 53) = fun _ => 0 from wz 3 (by omega) (by omega)]
  · refine ok_eq hP hk ?_
    rw [(iSt54 hz).2, show prm (59 * z + 54) = bz z + 4 from P 4 (by omega), h4, show w0C (59 * z + 54) = fun _ => 0 from wz 4 (by omega) (by omega)]
  · refine ok_eq hP hk ?_
    rw [(iSt55 hz).2, show prm (59 * z + 55) = bz z + 5 from P 5 (by omega), h5, show w0C (59 * z + 55) = fun _ => 0 from wz 5 (by omega) (by omega)]
  · refine ok_q hP hk (by rw [show prm (59 * z + 56) = bz z + 6 from P 6 (by omega)]; exact h6) ((qSt56 hz).2 _) (fun j hj => ?_)
    rw [g6 j hj]
    show some (ad (bz z + (11 + 6 * j))) = some (ad (prm (59 * z + 2 * j)))
    rw [(prm_l1 z hz j hj).1]
  · refine ok_q hP hk (by rw [show prm (59 * z + 57) = bz z + 7 from P 7 (by omega)]; exact h7) ((qSt57 hz).2 _) (fun j hj => ?_)
    rw [g7 j hj]
    show some (ad (bz z + (13 + 6 * j))) = some (ad (prm (59 * z + 16 + 2 * j)))
    rw [Nat.add_assoc (59 * z), (prm_l2 z hz j hj).1]
  · refine ok_q hP hk (by rw [show prm (59 * z + 58) = bz z + 8 from P 8 (by omega)]; exact h8) ((qSt58 hz).2 _) (fun j hj => ?_)
    rw [g8 j hj]
    show some (ad (bz z + (15 + 6 * j))) = some (ad (prm (59 * z + 32 + 2 * j)))
    rw [Nat.add_assoc (59 * z), (prm_l3 z hz j hj).1]
theorem ok_all (hP : ∀ j, j < 490 → va_at D vwCl (ad j, E j) H) (h : PVin cI cL cS ad E) {k : Nat} (hk : k < 490) : OKc D H cI cL cS ad k := by
  obtain ⟨h0, hst, ⟨ca, cb, cc⟩, ⟨ne, nl⟩, ⟨hi, ⟨f1, hq, g1⟩, hs⟩, tx, sc, s0, s1, s2⟩ := h
  by_cases c : k < 472
  · have hz : k / 59 < 8 := by omega
    have hS : StIn cI cL (bz (k / 59)) 8 ad E := by
      by_cases z0 : k / 59 = 0
      · rw [z0]; exact hst
      · have := hs (k / 59 - 1) (by omega)
        have e : bz (k / 59) = 66 + (2 + 59 * (k / 59 - 1)) := by unfold bz; rw [if_neg z0]; omega
        rw [e]; exact this
    have o := ok_st (cL := cL) (cS := cS) hP hz hS (k % 59) (Nat.mod_lt _ (by omega))
    rwa [Nat.div_add_mod] at o
  · have l480 := ok_ln (cL := cL) (cS := cS) hP ln480 nl (by decide) (by decide) (by decide)
    have l482 := ok_ln (cL := cL) (cS := cS) hP ln482 tx (by decide) (by decide) (by decide)
    have l484 := ok_ln (cL := cL) (cS := cS) hP ln484 s0 (by decide) (by decide) (by decide)
    have l486 := ok_ln (cL := cL) (cS := cS) hP ln486 s1 (by decide) (by decide) (by decide)
    have l488 := ok_ln (cL := cL) (cS := cS) hP ln488 s2 (by decide) (by decide) (by decide)
    rcases (show k = 472 ∨ k = 473 ∨ k = 474 ∨ k = 475 ∨ k = 476 ∨ k = 477 ∨ k = 478 ∨ k = 479 ∨ k = 480 ∨ k = 481 ∨ k = 482 ∨ k = 483 ∨ k = 484 ∨ k = 485 ∨ k = 486 ∨ k = 487 ∨ k = 488 ∨ k = 489 by omega) with rfl | rfl | rfl | rfl | rfl | rfl | rfl | rfl | rfl | rfl | rfl | rfl | rfl | rfl | rfl | rfl | rfl | rfl
    · refine ok_eq hP hk ?_
      rw [show prm 472 = 0 from rfl, h0]
      rfl
    · refine ok_eq hP hk ?_
      rw [show prm 473 = 60 from rfl, ca]
      rfl
    · refine ok_eq hP hk ?_
      rw [show prm 474 = 61 from rfl, cb, w0_z (k := 474) (by omega)]
      rfl
    · refine ok_eq hP hk ?_
      rw [show prm 475 = 62 from rfl, cc, w0_z (k := 475) (by omega)]
      rfl
    · refine ok_eq hP hk ?_
      rw [show prm 476 = 63 from rfl, ne]
      rfl
    · refine ok_eq hP hk ?_
      rw [show prm 477 = 66 + 0 from rfl, hi, w0_z (k := 477) (by omega)]
      rfl
    · refine ok_q hP hk (n := 7) (f := f1) (by rw [show prm 478 = 66 + 1 from rfl]; exact hq) (qHi.2 _) (fun j hj => ?_)
      rw [g1 j hj]
      show some (ad (66 + (2 + 59 * j))) = some (ad (prm (59 * (j + 1) + 50)))
      rw [prm_q j hj]
    · refine ok_eq hP hk ?_
      rw [show prm 479 = 483 from rfl, sc]
      rfl
    · exact l480.1
    · exact l480.2
    · exact l482.1
    · exact l482.2
    · exact l484.1
    · exact l484.2
    · exact l486.1
    · exact l486.2
    · exact l488.1
    · exact l488.2
/-- the class's world behind its constructor -/
theorem cv_C (hP : ∀ j, j < 490 → va_at D vwCl (ad j, E j) H) (h : PVin cI cL cS ad E) : va_P D vwCl (WW 490 (adP ad) (cellC cI cL cS (adP ad)) w0C) H := by
  intro k q hq
  obtain ⟨hk, rfl⟩ := WW_of hq
  exact ok_all hP h hk
/-- the first state -/
def T0 : TT := (fun j => if j = 0 then 1 else if j = 1 then 8 else if j = 2 then 12 else 0, fun _ => 0, fun _ => 0, fun _ => 0, fun _ => 0, fun _ _ => false, fun _ => [])
def S0 : ST := (T0, [], [])
theorem bits_f : ∀ n, bits (fun _ => false) n = 0
  | 0 => rfl
  | n + 1 => by show bits (fun _ => false) n + 0 = 0; rw [bits_f n]
theorem RLn0 (row : Nat → Int32) : RLn 0 row [] := ⟨rfl, fun k x h => by simp at h⟩
theorem nu7 {j : Nat} (hj : j < 7) : (if j = 0 then (1 : Int32) else if j = 1 then nI 8 else if j = 2 then nI 12 else 0) = nI (tt_nu T0 j) := by
  rcases (show j = 0 ∨ j = 1 ∨ j = 2 ∨ j = 3 ∨ j = 4 ∨ j = 5 ∨ j = 6 by omega) with rfl | rfl | rfl | rfl | rfl | rfl | rfl <;> rfl
theorem InvQ0 : InvQ T0 := by
  refine ⟨⟨⟨Nat.le_refl 1, by decide⟩, Nat.le_refl 8, ⟨by decide, Nat.le_refl 12⟩, ⟨rfl, fun p h1 _ => h1⟩, fun o _ => Nat.one_pos, fun o _ => Nat.zero_le _, fun j _ => Nat.zero_le _, fun o v _ h1 h2 => ?_, fun p o v _ _ h => ?_, fun i u _ h => ?_, fun i _ _ => Nat.zero_le _, fun i _ _ => Nat.zero_le _, ?_⟩, rfl, rfl⟩
  · exact absurd (Nat.le_trans h1 h2) (by show ¬ 1 ≤ 0; omega)
  · cases h
  · cases h
  · show 0 = fb_ct (fun _ => false) 96
    exact (fb_ct_zero.mpr (fun _ _ => rfl)).symm
theorem FC0 : FC S0 w0C := by
  refine ⟨⟨fun j hj => ?_, fun p hp => ?_, fun o ho => ?_, fun o ho => ?_, fun j hj => ?_, fun j hj => ?_, fun i hi => ?_⟩, InvQ0, ⟨0, by omega, rfl, rfl, Nat.zero_le 6, fun k hk => absurd hk (Nat.not_lt_zero k)⟩, ?_, Nat.zero_le 100, fun x h => by cases h⟩
  · exact (show w0C (59 * 0 + 50) j = _ from if_pos ⟨by omega, rfl⟩).trans (nu7 hj)
  · rfl
  · rfl
  · rfl
  · show (0 : Int32) = nI (bits (fun _ => false) 24)
    rw [bits_f]; rfl
  · rfl
  · rw [w0_z (k := 59 * 0 + 2 * i) (by omega)]
    exact RLn0 _
  · exact RLn0 _
end CV
