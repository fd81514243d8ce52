/-! ===== the cells of the class's world ===== -/
abbrev tC (cI cL cS : ClassId) : List (ClassId × FieldType) := [(cI, .int), (cL, .object "ProxyVersions$Line"), (cS, .object "ProxyVersions$State")]
/-- the room of the line k -/
def lroom (k : Nat) : Nat := if k < 472 then (if k % 59 = 0 then 96 else if k % 59 < 16 then 13 else if k % 59 = 16 then 0 else if k % 59 < 32 then 12 else if k % 59 = 32 then 0 else if k % 59 < 48 then 12 else 0) else if k = 480 then 96 else 100
def isLn (k : Nat) : Prop := (k < 472 ∧ k % 59 < 50 ∧ (k % 59) % 2 = 0) ∨ (480 ≤ k ∧ k < 490 ∧ k % 2 = 0)
abbrev fSt (ad : Nat → Nat) (k : Nat) (r : Nat → Int32) : List Value := [.int (r 0), .int (r 1), .int (r 2), .int (r 3), .int (r 4), .int (r 5), .int (r 6), .ref (ad (k + 51)), .ref (ad (k + 52)), .ref (ad (k + 53)), .ref (ad (k + 54)), .ref (ad (k + 55)), .ref (ad (k + 56)), .ref (ad (k + 57)), .ref (ad (k + 58)), .ref (ad (k + 48))]
def cellC (cI cL cS : ClassId) (ad : Nat → Nat) (k : Nat) (r : Nat → Int32) : va_E :=
  if k < 472 then
    if k % 59 < 50 then
      if (k % 59) % 2 = 0 then .inr (2, [.ref (ad (k + 1)), .int (r 1)]) else .inl (cI, lroom (k - 1), .inl r)
    else if k % 59 = 50 then .inr (5, fSt ad (k - 50) r)
    else if k % 59 = 51 then .inl (cI, 8, .inl r)
    else if k % 59 = 52 then .inl (cI, 4, .inl r)
    else if k % 59 = 53 then .inl (cI, 4, .inl r)
    else if k % 59 = 54 then .inl (cI, 32, .inl r)
    else if k % 59 = 55 then .inl (cI, 384, .inl r)
    else if k % 59 = 56 then .inl (cL, 8, .inr (.inr (.inr (.inr (fun j => some (ad (k - 56 + 2 * j)))))))
    else if k % 59 = 57 then .inl (cL, 8, .inr (.inr (.inr (.inr (fun j => some (ad (k - 57 + 16 + 2 * j)))))))
    else .inl (cL, 8, .inr (.inr (.inr (.inr (fun j => some (ad (k - 58 + 32 + 2 * j)))))))
  else if k = 472 then .inr (6, [.ref (ad 50), .ref (ad 473), .ref (ad 476), .ref (ad 477), .ref (ad 482), .ref (ad 479)])
  else if k = 473 then .inr (0, [.ref (ad 50), .ref (ad 474), .ref (ad 475)])
  else if k = 474 then .inl (cI, 4, .inl r)
  else if k = 475 then .inl (cI, 4, .inl r)
  else if k = 476 then .inr (3, [.ref (ad 50), .ref (ad 473), .ref (ad 480)])
  else if k = 477 then .inr (1, [.ref (ad 478), .int (r 1), .int (r 2)])
  else if k = 478 then .inl (cS, 7, .inr (.inr (.inr (.inr (fun j => some (ad (59 * (j + 1) + 50)))))))
  else if k = 479 then .inr (4, [.ref (ad 484), .ref (ad 486), .ref (ad 488)])
  else if k % 2 = 0 then .inr (2, [.ref (ad (k + 1)), .int (r 1)])
  else .inl (cI, lroom (k - 1), .inl r)
theorem md59 (z : Nat) {m : Nat} (h : m < 59) : (59 * z + m) % 59 = m := by rw [Nat.mul_add_mod, Nat.mod_eq_of_lt h]
theorem md59s {k : Nat} (h : k % 59 < 58) : (k + 1) % 59 = k % 59 + 1 := by
  have e := Nat.add_mod k 1 59
  rw [e, Nat.mod_eq_of_lt (by omega)]
theorem isLn_z {z m : Nat} (hz : z < 8) (hm : m < 50) (he : m % 2 = 0) : isLn (59 * z + m) := Or.inl ⟨by omega, by rw [md59 z (by omega)]; exact hm, by rw [md59 z (by omega)]; exact he⟩
section CELLS
variable {cI cL cS : ClassId} {ad : Nat → Nat}
theorem oLn {k : Nat} (h : isLn k) : isO 490 (cellC cI cL cS ad) 2 k (fun r => [.ref (ad (k + 1)), .int (r 1)]) := by
  rcases h with ⟨h1, h2, h3⟩ | ⟨h1, h2, h3⟩
  · exact ⟨by omega, fun r => by simp only [cellC]; rw [if_pos h1, if_pos h2, if_pos h3]⟩
  · refine ⟨by omega, fun r => ?_⟩
    simp only [cellC]
    rw [if_neg (by omega), if_neg (by omega), if_neg (by omega), if_neg (by omega), if_neg (by omega), if_neg (by omega), if_neg (by omega), if_neg (by omega), if_neg (by omega), if_pos h3]
theorem iLn {k : Nat} (h : isLn k) : isI 490 (cellC cI cL cS ad) cI (k + 1) (lroom k) := by
  rcases h with ⟨h1, h2, h3⟩ | ⟨h1, h2, h3⟩
  · refine ⟨by omega, fun r => ?_⟩
    simp only [cellC]
    rw [if_pos (by omega), md59s (by omega), if_pos (by omega), if_neg (by omega)]
    rfl
  · refine ⟨by omega, fun r => ?_⟩
    simp only [cellC]
    rw [if_neg (by omega), if_neg (by omega), if_neg (by omega), if_neg (by omega), if_neg (by omega), if_neg (by omega), if_neg (by omega), if_neg (by omega), if_neg (by omega), if_neg (by omega)]
    rfl
theorem ln48 : isLn 48 := Or.inl ⟨by decide, by decide, by decide⟩
theorem ln480 : isLn 480 := Or.inr ⟨by decide, by decide, by decide⟩
theorem ln482 : isLn 482 := Or.inr ⟨by decide, by decide, by decide⟩
theorem ln484 : isLn 484 := Or.inr ⟨by decide, by decide, by decide⟩
theorem ln486 : isLn 486 := Or.inr ⟨by decide, by decide, by decide⟩
theorem ln488 : isLn 488 := Or.inr ⟨by decide, by decide, by decide⟩
theorem oPV : isO 490 (cellC cI cL cS ad) 6 472 (fun _ => [.ref (ad 50), .ref (ad 473), .ref (ad 476), .ref (ad 477), .ref (ad 482), .ref (ad 479)]) := ⟨by decide, fun _ => rfl⟩
theorem oCa : isO 490 (cellC cI cL cS ad) 0 473 (fun _ => [.ref (ad 50), .ref (ad 474), .ref (ad 475)]) := ⟨by decide, fun _ => rfl⟩
theorem oNe : isO 490 (cellC cI cL cS ad) 3 476 (fun _ => [.ref (ad 50), .ref (ad 473), .ref (ad 480)]) := ⟨by decide, fun _ => rfl⟩
theorem oHi : isO 490 (cellC cI cL cS ad) 1 477 (fun r => [.ref (ad 478), .int (r 1), .int (r 2)]) := ⟨by decide, fun _ => rfl⟩
theorem oSc : isO 490 (cellC cI cL cS ad) 4 479 (fun _ => [.ref (ad 484), .ref (ad 486), .ref (ad 488)]) := ⟨by decide, fun _ => rfl⟩
theorem i474 : isI 490 (cellC cI cL cS ad) cI 474 4 := ⟨by decide, fun _ => rfl⟩
theorem i475 : isI 490 (cellC cI cL cS ad) cI 475 4 := ⟨by decide, fun _ => rfl⟩
theorem qHi : isQ 490 ad (cellC cI cL cS ad) cS 478 7 (fun j => 59 * (j + 1) + 50) := ⟨by decide, fun _ => rfl⟩
theorem oSt {z : Nat} (hz : z < 8) : isO 490 (cellC cI cL cS ad) 5 (59 * z + 50) (fun r => fSt ad (59 * z) r) := by
  refine ⟨by omega, fun r => ?_⟩
  simp only [cellC]
  rw [if_pos (by omega), if_neg (by omega), if_pos (by omega), Nat.add_sub_cancel]
theorem iSt51 {z : Nat} (hz : z < 8) : isI 490 (cellC cI cL cS ad) cI (59 * z + 51) 8 := by
  refine ⟨by omega, fun r => ?_⟩
  simp only [cellC]
  rw [if_pos (by omega), if_neg (by omega), if_neg (by omega), if_pos (by omega)]
theorem iSt52 {z : Nat} (hz : z < 8) : isI 490 (cellC cI cL cS ad) cI (59 * z + 52) 4 := by
  refine ⟨by omega, fun r => ?_⟩
  simp only [cellC]
  rw [if_pos (by omega), if_neg (by omega), if_neg (by omega), if_neg (by omega), if_pos (by omega)]
theorem iSt53 {z : Nat} (hz : z < 8) : isI 490 (cellC cI cL cS ad) cI (59 * z + 53) 4 := by
  refine ⟨by omega, fun r => ?_⟩
  simp only [cellC]
  rw [if_pos (by omega), if_neg (by omega), if_neg (by omega), if_neg (by omega), if_neg (by omega), if_pos (by omega)]
theorem iSt54 {z : Nat} (hz : z < 8) : isI 490 (cellC cI cL cS ad) cI (59 * z + 54) 32 := by
  refine ⟨by omega, fun r => ?_⟩
  simp only [cellC]
  rw [if_pos (by omega), if_neg (by omega), if_neg (by omega), if_neg (by omega), if_neg (by omega), if_neg (by omega), if_pos (by omega)]
theorem iSt55 {z : Nat} (hz : z < 8) : isI 490 (cellC cI cL cS ad) cI (59 * z + 55) 384 := by
  refine ⟨by omega, fun r => ?_⟩
  simp only [cellC]
  rw [if_pos (by omega), if_neg (by omega), if_neg (by omega), if_neg (by omega), if_neg (by omega), if_neg (by omega), if_neg (by omega), if_pos (by omega)]
theorem qSt56 {z : Nat} (hz : z < 8) : isQ 490 ad (cellC cI cL cS ad) cL (59 * z + 56) 8 (fun j => 59 * z + 2 * j) := by
  refine ⟨by omega, fun r => ?_⟩
  simp only [cellC]
  rw [if_pos (by omega), if_neg (by omega), if_neg (by omega), if_neg (by omega), if_neg (by omega), if_neg (by omega), if_neg (by omega), if_neg (by omega), if_pos (by omega)]
  simp
theorem qSt57 {z : Nat} (hz : z < 8) : isQ 490 ad (cellC cI cL cS ad) cL (59 * z + 57) 8 (fun j => 59 * z + 16 + 2 * j) := by
  refine ⟨by omega, fun r => ?_⟩
  simp only [cellC]
  rw [if_pos (by omega), if_neg (by omega), if_neg (by omega), if_neg (by omega), if_neg (by omega), if_neg (by omega), if_neg (by omega), if_neg (by omega), if_neg (by omega), if_pos (by omega)]
  simp
theorem qSt58 {z : Nat} (hz : z < 8) : isQ 490 ad (cellC cI cL cS ad) cL (59 * z + 58) 8 (fun j => 59 * z + 32 + 2 * j) := by
  refine ⟨by omega, fun r => ?_⟩
  simp only [cellC]
  rw [if_pos (by omega), if_neg (by omega), if_neg (by omega), if_neg (by omega), if_neg (by omega), if_neg (by omega), if_neg (by omega), if_neg (by omega), if_neg (by omega), if_neg (by omega)]
  simp
theorem ib_lt {i : Int32} {n : Nat} (h : ib i n) : i.toNatClampNeg < n := Nat.not_le.mp fun q => h (Or.inr q)
theorem lnS56 {z : Nat} (hz : z < 8) {i : Int32} (h : ib i 8) : isLn (59 * z + 2 * i.toNatClampNeg) := by
  have := ib_lt h
  exact isLn_z hz (by omega) (by omega)
theorem lnS57 {z : Nat} (hz : z < 8) {i : Int32} (h : ib i 8) : isLn (59 * z + 16 + 2 * i.toNatClampNeg) := by
  have := ib_lt h
  rw [Nat.add_assoc]; exact isLn_z hz (by omega) (by omega)
theorem lnS58 {z : Nat} (hz : z < 8) {i : Int32} (h : ib i 8) : isLn (59 * z + 32 + 2 * i.toNatClampNeg) := by
  have := ib_lt h
  rw [Nat.add_assoc]; exact isLn_z hz (by omega) (by omega)
theorem lnSt48 {z : Nat} (hz : z < 8) : isLn (59 * z + 48) := isLn_z hz (by omega) (by omega)
theorem hz_ib {i : Int32} (h : ib i 7) : i.toNatClampNeg + 1 < 8 := by
  have := ib_lt h
  omega
theorem h08 : 0 < 8 := by decide
/-- the live state -/
theorem oS0 : isO 490 (cellC cI cL cS ad) 5 50 (fun r => fSt ad 0 r) := oSt h08
theorem i51 : isI 490 (cellC cI cL cS ad) cI 51 8 := iSt51 h08
theorem i52 : isI 490 (cellC cI cL cS ad) cI 52 4 := iSt52 h08
theorem i53 : isI 490 (cellC cI cL cS ad) cI 53 4 := iSt53 h08
theorem i54 : isI 490 (cellC cI cL cS ad) cI 54 32 := iSt54 h08
theorem i55 : isI 490 (cellC cI cL cS ad) cI 55 384 := iSt55 h08
theorem q56 : isQ 490 ad (cellC cI cL cS ad) cL 56 8 (fun j => 2 * j) := ⟨by decide, fun r => ((qSt56 h08).2 r).trans (by simp)⟩
theorem q57 : isQ 490 ad (cellC cI cL cS ad) cL 57 8 (fun j => 16 + 2 * j) := ⟨by decide, fun r => ((qSt57 h08).2 r).trans (by simp)⟩
theorem q58 : isQ 490 ad (cellC cI cL cS ad) cL 58 8 (fun j => 32 + 2 * j) := ⟨by decide, fun r => ((qSt58 h08).2 r).trans (by simp)⟩
theorem ln56 {i : Int32} (h : ib i 8) : isLn (2 * i.toNatClampNeg) := by
  have := ib_lt h
  exact (by simpa using isLn_z (z := 0) (m := 2 * i.toNatClampNeg) (by omega) (by omega) (by omega))
theorem ln57 {i : Int32} (h : ib i 8) : isLn (16 + 2 * i.toNatClampNeg) := by
  have := ib_lt h
  exact (by simpa using isLn_z (z := 0) (m := 16 + 2 * i.toNatClampNeg) (by omega) (by omega) (by omega))
theorem ln58 {i : Int32} (h : ib i 8) : isLn (32 + 2 * i.toNatClampNeg) := by
  have := ib_lt h
  exact (by simpa using isLn_z (z := 0) (m := 32 + 2 * i.toNatClampNeg) (by omega) (by omega) (by omega))
end CELLS
def FU : Nat := 10000
