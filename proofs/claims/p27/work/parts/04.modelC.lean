/-! ===== the class, method by method, as functions of its world (printed by wip/p27/tools/genL.py from the listing) ===== -/
theorem f_fn {β : Type} {c : Prop} {_ : Decidable (¬ c)} {a b : Option β} {o : β} (hc : c) (h : (if ¬ c then a else b) = some o) : b = some o := by rwa [if_neg (fun q => q hc)] at h
theorem f_c2 {β : Type} {c : Prop} {_ : Decidable c} {a : Option β} {o : β} (h : (if c then none else a) = some o) : ¬ c ∧ a = some o := by
  by_cases hc : c
  · rw [if_pos hc] at h; cases h
  · exact ⟨hc, by rwa [if_neg hc] at h⟩
abbrev cpok (sp dp n : Int32) (n0 n1 : Nat) : Prop := ¬ sp < 0 ∧ ¬ dp < 0 ∧ ¬ n < 0 ∧ sp.toNatClampNeg + n.toNatClampNeg ≤ n0 ∧ dp.toNatClampNeg + n.toNatClampNeg ≤ n1
def m_X5_knownOf (x1 : Int32) (x2 : Int32) (w : Wd) : Option (Int32) :=
  lt (((x1 * (nI 4)) + x2)) fun x3_1 =>
  if x3_1 < 0 then
    some (nI 0)
  else
  if (nI 32) ≤ x3_1 then
    some (nI 0)
  else
  if ib x3_1 32 then
    some (w 54 x3_1.toNatClampNeg)
  else none
def m_X6_prefixOf_L2 (x0 : Int32) : Nat → Int32 → Option (Int32)
  | 0, _ => none
  | n + 1, x1 =>
    if (nI 24) ≤ x1 then
      some x1
    else
    if ((x0 >>> (x1 &&& 31)) &&& (nI 1)) = 0 then
      some x1
    else
    (m_X6_prefixOf_L2 x0 n) (x1 + (nI 1))
def m_X6_prefixOf (x0 : Int32) : Option (Int32) :=
  m_X6_prefixOf_L2 x0 FU (nI 0)
def m_X5_hasCausesIn_L15 (x4 : Int32) (w : Wd) : Nat → Int32 → Option (Int32)
  | 0, _ => none
  | n + 1, x5 =>
    if (nI 4) ≤ x5 then
      some (nI 1)
    else
    lt ((x4 + x5)) fun x6_1 =>
    if x6_1 < 0 then
      some (nI 0)
    else
    if (nI 384) ≤ x6_1 then
      some (nI 0)
    else
    if (nI 4) ≤ x5 then
      some (nI 0)
    else
    if ib x6_1 384 then
      if ib x5 4 then
        if (w 55 x6_1.toNatClampNeg) ≤ (w 474 x5.toNatClampNeg) then
          (m_X5_hasCausesIn_L15 x4 w n) (x5 + (nI 1))
        else
        some (nI 0)
      else none
    else none
def m_X5_hasCausesIn (x1 : Int32) (x2 : Int32) (w : Wd) : Option (Int32) :=
  lt (((((x1 * (nI 24)) + x2) - (nI 1)) * (nI 4))) fun x4_1 =>
  m_X5_hasCausesIn_L15 x4_1 w FU (nI 0)
def m_X0_findServed_L2 (x1 : Int32) (kx31 : Wd → Option (Wd)) : Nat → Int32 → Wd → Option (Wd)
  | 0, _, _ => none
  | n + 1, x2, w =>
    if (nI 4) ≤ x2 then
      kx31 w
    else
    (m_X5_knownOf x1 x2 w).bind fun o1 =>
    (m_X6_prefixOf o1).bind fun o2 =>
    if ib x2 4 then
    lt (wset w 474 x2.toNatClampNeg o2) fun w4 =>
      (m_X0_findServed_L2 x1 kx31 n) (x2 + (nI 1)) w4
    else none
def m_X0_findServed_L59 (x2 : Int32) (x3 : Int32) (x4 : Int32) (kx97 : Int32 → Wd → Option (Wd)) : Nat → Int32 → Wd → Option (Wd)
  | 0, _, _ => none
  | n + 1, x5, w =>
    if ib x4 4 then
      if (w 474 x4.toNatClampNeg) ≤ x5 then
        kx97 x5 w
      else
      (m_X5_hasCausesIn x4 (x5 + (nI 1)) w).bind fun o2 =>
      if o2 = 0 then
        kx97 x5 w
      else
      (m_X0_findServed_L59 x2 x3 x4 kx97 n) (x5 + (nI 1)) w
    else none
def m_X0_findServed_j118 (x3 : Int32) (x4 : Int32) (x5 : Int32) (s0 : Int32) (w : Wd) (kc : Int32 → Int32 → Wd → Option (Wd)) (kx134 : Int32 → Wd → Option (Wd)) : Option (Wd) :=
if ib x4 4 then
lt (wset w 474 x4.toNatClampNeg x5) fun w2 =>
  kc s0 (x4 + (nI 1)) w2
else none
def m_X0_findServed_j113 (x3 : Int32) (x4 : Int32) (x5 : Int32) (w : Wd) (kc : Int32 → Int32 → Wd → Option (Wd)) (kx134 : Int32 → Wd → Option (Wd)) : Option (Wd) :=
m_X0_findServed_j118 x3 x4 x5 (nI 1) w kc kx134
def m_X0_findServed_j97 (x2 : Int32) (x3 : Int32) (x4 : Int32) (x5 : Int32) (w : Wd) (kc : Int32 → Int32 → Wd → Option (Wd)) (kx134 : Int32 → Wd → Option (Wd)) : Option (Wd) :=
if ¬ x2 = 0 then
  m_X0_findServed_j113 x3 x4 x5 w kc kx134
else
if ib x4 4 then
  if (w 474 x4.toNatClampNeg) ≤ x5 then
    m_X0_findServed_j118 x3 x4 x5 (nI 0) w kc kx134
  else
  m_X0_findServed_j113 x3 x4 x5 w kc kx134
else none
def m_X0_findServed_L50 (x3 : Int32) (kx134 : Int32 → Wd → Option (Wd)) : Nat → Int32 → Int32 → Wd → Option (Wd)
  | 0, _, _, _ => none
  | n + 1, x2, x4, w =>
    if (nI 4) ≤ x4 then
      kx134 x2 w
    else
    m_X0_findServed_L59 x2 x3 x4 (fun x5_1 w2 =>
      m_X0_findServed_j97 x2 x3 x4 x5_1 w2 (m_X0_findServed_L50 x3 kx134 n) kx134) FU (nI 0) w
def m_X0_findServed_L35 : Nat → Int32 → Int32 → Wd → Option (Wd)
  | 0, _, _, _ => none
  | n + 1, x2, x3, w =>
    if (nI 96) < x3 then
      some w
    else
    if x2 = 0 then
      some w
    else
    m_X0_findServed_L50 x3 (fun x2_1 w2 =>
      (m_X0_findServed_L35 n) x2_1 (x3 + (nI 1)) w2) FU (nI 0) (nI 0) w
def m_X0_findServed (x1 : Int32) (w : Wd) : Option (Wd) :=
  m_X0_findServed_L2 x1 (fun w1 =>
    m_X0_findServed_L35 FU (nI 1) (nI 0) w1) FU (nI 0) w
def m_X0_prefixFound (x1 : Int32) (w : Wd) : Option (Int32) :=
  if x1 < 0 then
    some (nI 0)
  else
  if (nI 4) ≤ x1 then
    some (nI 0)
  else
  if ib x1 4 then
    some (w 474 x1.toNatClampNeg)
  else none
def m_X0_servedOf (x1 : Int32) (x2 : Int32) (w : Wd) : Option (Int32 × Wd) :=
  (m_X0_findServed x1 w).bind fun o1 =>
  (m_X0_prefixFound x2 o1).bind fun o2 =>
  some (o2, o1)
def m_X0_servedCount_L9 : Nat → Int32 → Int32 → Wd → Option (Int32 × Wd)
  | 0, _, _, _ => none
  | n + 1, x2, x3, w =>
    if (nI 4) ≤ x3 then
      some (x2, w)
    else
    if ib x3 4 then
      lt ((x2 + (w 474 x3.toNatClampNeg))) fun x2_2 =>
      (m_X0_servedCount_L9 n) x2_2 (x3 + (nI 1)) w
    else none
def m_X0_servedCount (x1 : Int32) (w : Wd) : Option (Int32 × Wd) :=
  (m_X0_findServed x1 w).bind fun o1 =>
  m_X0_servedCount_L9 FU (nI 0) (nI 0) o1
def m_X5_causeOf (x1 : Int32) (x2 : Int32) (x3 : Int32) (w : Wd) : Option (Int32) :=
  lt ((((((x1 * (nI 24)) + x2) - (nI 1)) * (nI 4)) + x3)) fun x4_1 =>
  if x4_1 < 0 then
    some (nI 0)
  else
  if (nI 384) ≤ x4_1 then
    some (nI 0)
  else
  if ib x4_1 384 then
    some (w 55 x4_1.toNatClampNeg)
  else none
def m_X0_addCausesOf_j88 (x1 : Int32) (x2 : Int32) (x3 : Int32) (x4 : Int32) (x5 : Int32) (w : Wd) (kc : Int32 → Int32 → Wd → Option (Int32 × Wd)) (kx94 : Int32 → Wd → Option (Int32 × Wd)) : Option (Int32 × Wd) :=
kc x2 (x5 + (nI 1)) w
def m_X0_addCausesOf_L45 (x1 : Int32) (x3 : Int32) (x4 : Int32) (kx94 : Int32 → Wd → Option (Int32 × Wd)) : Nat → Int32 → Int32 → Wd → Option (Int32 × Wd)
  | 0, _, _, _ => none
  | n + 1, x2, x5, w =>
    if (nI 4) ≤ x5 then
      kx94 x2 w
    else
    (m_X5_causeOf x1 x4 x5 w).bind fun o1 =>
    if ib x5 4 then
      if o1 ≤ (w 475 x5.toNatClampNeg) then
        m_X0_addCausesOf_j88 x1 x2 x3 x4 x5 w (m_X0_addCausesOf_L45 x1 x3 x4 kx94 n) kx94
      else
      if ib x5 4 then
      lt (wset w 475 x5.toNatClampNeg o1) fun w4 =>
        m_X0_addCausesOf_j88 x1 (nI 1) x3 x4 x5 w4 (m_X0_addCausesOf_L45 x1 x3 x4 kx94 n) kx94
      else none
    else none
def m_X0_addCausesOf_L29 (x1 : Int32) (x3 : Int32) : Nat → Int32 → Int32 → Wd → Option (Int32 × Wd)
  | 0, _, _, _ => none
  | n + 1, x2, x4, w =>
    if (nI 24) < x4 then
      some ((x2 &&& 1), w)
    else
    if x3 < x4 then
      some ((x2 &&& 1), w)
    else
    m_X0_addCausesOf_L45 x1 x3 x4 (fun x2_1 w2 =>
      (m_X0_addCausesOf_L29 x1 x3 n) x2_1 (x4 + (nI 1)) w2) FU x2 (nI 0) w
def m_X0_addCausesOf_j25 (x1 : Int32) (x2 : Int32) (s0 : Int32) (w : Wd) : Option (Int32 × Wd) :=
m_X0_addCausesOf_L29 x1 s0 FU x2 (nI 1) w
def m_X0_addCausesOf_j24 (x1 : Int32) (x2 : Int32) (w : Wd) : Option (Int32 × Wd) :=
m_X0_addCausesOf_j25 x1 x2 (nI 0) w
def m_X0_addCausesOf (x1 : Int32) (w : Wd) : Option (Int32 × Wd) :=
  if x1 < 0 then
    m_X0_addCausesOf_j24 x1 (nI 0) w
  else
  if (nI 4) ≤ x1 then
    m_X0_addCausesOf_j24 x1 (nI 0) w
  else
  if ib x1 4 then
    m_X0_addCausesOf_j25 x1 (nI 0) (w 475 x1.toNatClampNeg) w
  else none
def m_X0_findNeeds_j22 (x1 : Int32) (x2 : Int32) (x3 : Int32) (s1 : Int32) (s2 : Int32) (w : Wd) (kc : Int32 → Wd → Option (Wd)) (kx29 : Wd → Option (Wd)) : Option (Wd) :=
if ib s1 4 then
lt (wset w 475 s1.toNatClampNeg s2) fun w2 =>
  kc (x3 + (nI 1)) w2
else none
def m_X0_findNeeds_L2 (x1 : Int32) (x2 : Int32) (kx29 : Wd → Option (Wd)) : Nat → Int32 → Wd → Option (Wd)
  | 0, _, _ => none
  | n + 1, x3, w =>
    if (nI 4) ≤ x3 then
      kx29 w
    else
    if ¬ x3 = x1 then
      m_X0_findNeeds_j22 x1 x2 x3 x3 (nI 0) w (m_X0_findNeeds_L2 x1 x2 kx29 n) kx29
    else
    m_X0_findNeeds_j22 x1 x2 x3 x3 x2 w (m_X0_findNeeds_L2 x1 x2 kx29 n) kx29
def m_X0_findNeeds_j74 (x4 : Int32) (x5 : Int32) (s0 : Int32) (w : Wd) (kc : Int32 → Int32 → Wd → Option (Wd)) (kx81 : Int32 → Wd → Option (Wd)) : Option (Wd) :=
kc s0 (x5 + (nI 1)) w
def m_X0_findNeeds_j69 (x4 : Int32) (x5 : Int32) (w : Wd) (kc : Int32 → Int32 → Wd → Option (Wd)) (kx81 : Int32 → Wd → Option (Wd)) : Option (Wd) :=
m_X0_findNeeds_j74 x4 x5 (nI 1) w kc kx81
def m_X0_findNeeds_L50 (x4 : Int32) (kx81 : Int32 → Wd → Option (Wd)) : Nat → Int32 → Int32 → Wd → Option (Wd)
  | 0, _, _, _ => none
  | n + 1, x3, x5, w =>
    if (nI 4) ≤ x5 then
      kx81 x3 w
    else
    (m_X0_addCausesOf x5 w).bind fun o1 =>
    if ¬ o1.1 = 0 then
      m_X0_findNeeds_j69 x4 x5 o1.2 (m_X0_findNeeds_L50 x4 kx81 n) kx81
    else
    if x3 = 0 then
      m_X0_findNeeds_j74 x4 x5 (nI 0) o1.2 (m_X0_findNeeds_L50 x4 kx81 n) kx81
    else
    m_X0_findNeeds_j69 x4 x5 o1.2 (m_X0_findNeeds_L50 x4 kx81 n) kx81
def m_X0_findNeeds_L34 : Nat → Int32 → Int32 → Wd → Option (Wd)
  | 0, _, _, _ => none
  | n + 1, x3, x4, w =>
    if (nI 96) < x4 then
      some w
    else
    if x3 = 0 then
      some w
    else
    m_X0_findNeeds_L50 x4 (fun x3_1 w2 =>
      (m_X0_findNeeds_L34 n) x3_1 (x4 + (nI 1)) w2) FU (nI 0) (nI 0) w
def m_X0_findNeeds (x1 : Int32) (x2 : Int32) (w : Wd) : Option (Wd) :=
  m_X0_findNeeds_L2 x1 x2 (fun w1 =>
    m_X0_findNeeds_L34 FU (nI 1) (nI 0) w1) FU (nI 0) w
def m_X6_contains (x0 : Int32) (x1 : Int32) : Option (Int32) :=
  if x1 < (nI 1) then
    some (nI 0)
  else
  if (nI 24) < x1 then
    some (nI 0)
  else
  if ((x0 >>> ((x1 - (nI 1)) &&& 31)) &&& (nI 1)) = 0 then
    some (nI 0)
  else
  some (nI 1)
def m_X5_knows (x1 : Int32) (x2 : Int32) (x3 : Int32) (w : Wd) : Option (Int32) :=
  (m_X5_knownOf x1 x2 w).bind fun o1 =>
  (m_X6_contains o1 x3).bind fun o2 =>
  some (o2 &&& 1)
def m_X0_countMissing_j58 (x1 : Int32) (x4 : Int32) (x5 : Int32) (x6 : Int32) (w : Wd) (kc : Int32 → Int32 → Wd → Option (Int32 × Wd)) (kx64 : Int32 → Wd → Option (Int32 × Wd)) : Option (Int32 × Wd) :=
kc x4 (x6 + (nI 1)) w
def m_X0_countMissing_L21 (x1 : Int32) (x5 : Int32) (kx64 : Int32 → Wd → Option (Int32 × Wd)) : Nat → Int32 → Int32 → Wd → Option (Int32 × Wd)
  | 0, _, _, _ => none
  | n + 1, x4, x6, w =>
    if (nI 24) < x6 then
      kx64 x4 w
    else
    if ib x5 4 then
      if (w 475 x5.toNatClampNeg) < x6 then
        kx64 x4 w
      else
      (m_X5_knows x1 x5 x6 w).bind fun o2 =>
      if ¬ o2 = 0 then
        m_X0_countMissing_j58 x1 x4 x5 x6 w (m_X0_countMissing_L21 x1 x5 kx64 n) kx64
      else
      m_X0_countMissing_j58 x1 (x4 + (nI 1)) x5 x6 w (m_X0_countMissing_L21 x1 x5 kx64 n) kx64
    else none
def m_X0_countMissing_j64 (x1 : Int32) (x4 : Int32) (x5 : Int32) (w : Wd) (kc : Int32 → Int32 → Wd → Option (Int32 × Wd)) : Option (Int32 × Wd) :=
kc x4 (x5 + (nI 1)) w
def m_X0_countMissing_L12 (x1 : Int32) : Nat → Int32 → Int32 → Wd → Option (Int32 × Wd)
  | 0, _, _, _ => none
  | n + 1, x4, x5, w =>
    if (nI 4) ≤ x5 then
      some (x4, w)
    else
    m_X0_countMissing_L21 x1 x5 (fun x4_1 w2 =>
      m_X0_countMissing_j64 x1 x4_1 x5 w2 (m_X0_countMissing_L12 x1 n)) FU x4 (nI 1) w
def m_X0_countMissing (x1 : Int32) (x2 : Int32) (x3 : Int32) (w : Wd) : Option (Int32 × Wd) :=
  (m_X0_findNeeds x2 x3 w).bind fun o1 =>
  m_X0_countMissing_L12 x1 FU (nI 0) (nI 0) o1
def m_X1_savedCount (w : Wd) : Option (Int32) :=
  some (w 477 2)
def m_J9_floorMod_7cf53 (x0 : Int32) (x1 : Int32) : Option (Int32) :=
  if x1 = 0 then none else
  lt ((x0 - x0 / x1 * x1)) fun x2_2 =>
  if 0 ≤ (x0 ^^^ x1) then
    some x2_2
  else
  if x2_2 = 0 then
    some x2_2
  else
  some (x2_2 + x1)
def m_X2_copyFrom (q0 : Nat) (q1 : Nat) (w : Wd) : Option (Wd) :=
  if cpok (nI 0) (nI 0) (if (nI (lroom q0)) < (nI (lroom q1)) then (nI (lroom q0)) else (nI (lroom q1))) (lroom q1) (lroom q0) then
  lt (wcpy w (q1 + 1) (q0 + 1) (nI 0).toNatClampNeg (nI 0).toNatClampNeg (if (nI (lroom q0)) < (nI (lroom q1)) then (nI (lroom q0)) else (nI (lroom q1))).toNatClampNeg) fun w2 =>
    lt (wset w2 q0 1 (if (nI (lroom q0)) < (w2 q1 1) then (nI (lroom q0)) else (w2 q1 1))) fun w3 =>
    some w3
  else none
def m_X5_copyFrom_L132 (z0 : Nat) (z1 : Nat) : Nat → Int32 → Wd → Option (Wd)
  | 0, _, _ => none
  | n + 1, x2, w =>
    if (nI 8) ≤ x2 then
      some w
    else
    if ib x2 8 then
      if ib x2 8 then
        (m_X2_copyFrom (59 * z0 + 2 * x2.toNatClampNeg) (59 * z1 + 2 * x2.toNatClampNeg) w).bind fun o3 =>
        if ib x2 8 then
          if ib x2 8 then
            (m_X2_copyFrom (59 * z0 + 16 + 2 * x2.toNatClampNeg) (59 * z1 + 16 + 2 * x2.toNatClampNeg) o3).bind fun o6 =>
            if ib x2 8 then
              if ib x2 8 then
                (m_X2_copyFrom (59 * z0 + 32 + 2 * x2.toNatClampNeg) (59 * z1 + 32 + 2 * x2.toNatClampNeg) o6).bind fun o9 =>
                (m_X5_copyFrom_L132 z0 z1 n) (x2 + (nI 1)) o9
              else none
            else none
          else none
        else none
      else none
    else none
def m_X5_copyFrom (z0 : Nat) (z1 : Nat) (w : Wd) : Option (Wd) :=
  lt (wset w (59 * z0 + 50) 0 (w (59 * z1 + 50) 0)) fun w1 =>
  lt (wset w1 (59 * z0 + 50) 1 (w1 (59 * z1 + 50) 1)) fun w2 =>
  lt (wset w2 (59 * z0 + 50) 2 (w2 (59 * z1 + 50) 2)) fun w3 =>
  lt (wset w3 (59 * z0 + 50) 3 (w3 (59 * z1 + 50) 3)) fun w4 =>
  lt (wset w4 (59 * z0 + 50) 4 (w4 (59 * z1 + 50) 4)) fun w5 =>
  lt (wset w5 (59 * z0 + 50) 5 (w5 (59 * z1 + 50) 5)) fun w6 =>
  lt (wset w6 (59 * z0 + 50) 6 (w6 (59 * z1 + 50) 6)) fun w7 =>
  if cpok (nI 0) (nI 0) (nI 8) 8 8 then
  lt (wcpy w7 (59 * z1 + 51) (59 * z0 + 51) (nI 0).toNatClampNeg (nI 0).toNatClampNeg (nI 8).toNatClampNeg) fun w9 =>
    if cpok (nI 0) (nI 0) (nI 4) 4 4 then
    lt (wcpy w9 (59 * z1 + 52) (59 * z0 + 52) (nI 0).toNatClampNeg (nI 0).toNatClampNeg (nI 4).toNatClampNeg) fun w11 =>
      if cpok (nI 0) (nI 0) (nI 4) 4 4 then
      lt (wcpy w11 (59 * z1 + 53) (59 * z0 + 53) (nI 0).toNatClampNeg (nI 0).toNatClampNeg (nI 4).toNatClampNeg) fun w13 =>
        if cpok (nI 0) (nI 0) (nI 32) 32 32 then
        lt (wcpy w13 (59 * z1 + 54) (59 * z0 + 54) (nI 0).toNatClampNeg (nI 0).toNatClampNeg (nI 32).toNatClampNeg) fun w15 =>
          if cpok (nI 0) (nI 0) (nI 384) 384 384 then
          lt (wcpy w15 (59 * z1 + 55) (59 * z0 + 55) (nI 0).toNatClampNeg (nI 0).toNatClampNeg (nI 384).toNatClampNeg) fun w17 =>
            m_X5_copyFrom_L132 z0 z1 FU (nI 0) w17
          else none
        else none
      else none
    else none
  else none
def m_X1_stage (w : Wd) : Option (Wd) :=
  (m_J9_floorMod_7cf53 (w 477 1) (nI 7)).bind fun o1 =>
  if ib o1 7 then
    (m_X5_copyFrom (o1.toNatClampNeg + 1) 0 w).bind fun o3 =>
    some o3
  else none
def m_X1_commit (w : Wd) : Option (Wd) :=
  (m_J9_floorMod_7cf53 ((w 477 1) + (nI 1)) (nI 7)).bind fun o1 =>
  lt (wset w 477 1 o1) fun w2 =>
  lt (wset w2 477 2 (if (nI 6) < ((w2 477 2) + (nI 1)) then (nI 6) else ((w2 477 2) + (nI 1)))) fun w3 =>
  some w3
def m_X2_length (q0 : Nat) (w : Wd) : Option (Int32) :=
  some (w q0 1)
def m_X2_at (q0 : Nat) (x1 : Int32) (w : Wd) : Option (Int32) :=
  if x1 < 0 then
    some (nI 0)
  else
  if (w q0 1) ≤ x1 then
    some (nI 0)
  else
  if (nI (lroom q0)) ≤ x1 then
    some (nI 0)
  else
  if ib x1 (lroom q0) then
    some (w (q0 + 1) x1.toNatClampNeg)
  else none
def m_X2_has_L2 (q0 : Nat) (x1 : Int32) (w : Wd) : Nat → Int32 → Option (Int32)
  | 0, _ => none
  | n + 1, x2 =>
    if (w q0 1) ≤ x2 then
      some (nI 0)
    else
    if (nI (lroom q0)) ≤ x2 then
      some (nI 0)
    else
    if ib x2 (lroom q0) then
      if ¬ (w (q0 + 1) x2.toNatClampNeg) = x1 then
        (m_X2_has_L2 q0 x1 w n) (x2 + (nI 1))
      else
      some (nI 1)
    else none
def m_X2_has (q0 : Nat) (x1 : Int32) (w : Wd) : Option (Int32) :=
  m_X2_has_L2 q0 x1 w FU (nI 0)
def m_X2_append (q0 : Nat) (x1 : Int32) (w : Wd) : Option (Int32 × Wd) :=
  if (w q0 1) < 0 then
    some ((nI 0), w)
  else
  if (w q0 1) < (nI (lroom q0)) then
    if ib (w q0 1) (lroom q0) then
    lt (wset w (q0 + 1) (w q0 1).toNatClampNeg x1) fun w2 =>
      lt (wset w2 q0 1 ((w2 q0 1) + (nI 1))) fun w3 =>
      some ((nI 1), w3)
    else none
  else
  some ((nI 0), w)
def m_X2_removeAt_L17 (q0 : Nat) (kx54 : Wd → Option (Wd)) : Nat → Int32 → Wd → Option (Wd)
  | 0, _, _ => none
  | n + 1, x2, w =>
    if (w q0 1) ≤ x2 then
      kx54 w
    else
    if (nI (lroom q0)) ≤ x2 then
      kx54 w
    else
    if ib x2 (lroom q0) then
      if ib (x2 - (nI 1)) (lroom q0) then
      lt (wset w (q0 + 1) (x2 - (nI 1)).toNatClampNeg (w (q0 + 1) x2.toNatClampNeg)) fun w3 =>
        (m_X2_removeAt_L17 q0 kx54 n) (x2 + (nI 1)) w3
      else none
    else none
def m_X2_removeAt_j54 (q0 : Nat) (w : Wd) : Option (Wd) :=
lt (wset w q0 1 ((w q0 1) - (nI 1))) fun w1 =>
some w1
def m_X2_removeAt (q0 : Nat) (x1 : Int32) (w : Wd) : Option (Wd) :=
  if x1 < 0 then
    some w
  else
  if x1 < (w q0 1) then
    lt ((x1 + (nI 1))) fun x2_1 =>
    m_X2_removeAt_L17 q0 (fun w2 =>
      m_X2_removeAt_j54 q0 w2) FU x2_1 w
  else
  some w
def m_X2_clear (q0 : Nat) (w : Wd) : Option (Wd) :=
  lt (wset w q0 1 (nI 0)) fun w1 =>
  some w1
def m_X5_hasProxy (x1 : Int32) (w : Wd) : Option (Int32) :=
  if x1 < 0 then
    some (nI 0)
  else
  if (w 50 0) ≤ x1 then
    some (nI 0)
  else
  some (nI 1)
def m_X5_addChild (x1 : Int32) (w : Wd) : Option (Int32 × Wd) :=
  lt ((w 50 0)) fun x2_1 =>
  if x2_1 < 0 then
    some (x2_1, w)
  else
  if (nI 8) ≤ x2_1 then
    some (x2_1, w)
  else
  if ib x2_1 8 then
  lt (wset w 51 x2_1.toNatClampNeg x1) fun w3 =>
    lt (wset w3 50 0 ((w3 50 0) + (nI 1))) fun w4 =>
    some (x2_1, w4)
  else none
def m_X3_insertProxy (x1 : Int32) (w : Wd) : Option (Int32 × Wd) :=
  (m_X5_hasProxy x1 w).bind fun o1 =>
  if ¬ o1 = 0 then
    if (w 50 0) < (nI 8) then
      (m_X5_addChild x1 w).bind fun o2 =>
      some (o2.1, o2.2)
    else
    some ((-3 : Int32), w)
  else
  some ((-1 : Int32), w)
def m_X7_isOrigin (x0 : Int32) : Option (Int32) :=
  if x0 < 0 then
    some (nI 0)
  else
  if (nI 4) ≤ x0 then
    some (nI 0)
  else
  some (nI 1)
def m_X5_writtenOf (x1 : Int32) (w : Wd) : Option (Int32) :=
  if x1 < 0 then
    some (nI 0)
  else
  if (nI 4) ≤ x1 then
    some (nI 0)
  else
  if ib x1 4 then
    some (w 53 x1.toNatClampNeg)
  else none
def m_X5_homeOf (x1 : Int32) (w : Wd) : Option (Int32) :=
  if x1 < 0 then
    some (nI 0)
  else
  if (nI 4) ≤ x1 then
    some (nI 0)
  else
  if ib x1 4 then
    some (w 52 x1.toNatClampNeg)
  else none
def m_X5_setHomeOf (x1 : Int32) (x2 : Int32) (w : Wd) : Option (Wd) :=
  if x1 < 0 then
    some w
  else
  if (nI 4) ≤ x1 then
    some w
  else
  if ib x1 4 then
  lt (wset w 52 x1.toNatClampNeg x2) fun w2 =>
    some w2
  else none
def m_X3_changeHome (x1 : Int32) (x2 : Int32) (w : Wd) : Option (Int32 × Wd) :=
  (m_X7_isOrigin x1).bind fun o1 =>
  if o1 = 0 then
    some ((-1 : Int32), w)
  else
  (m_X5_hasProxy x2 w).bind fun o2 =>
  if ¬ o2 = 0 then
    (m_X5_writtenOf x1 w).bind fun o3 =>
    if o3 ≤ 0 then
      (m_X5_homeOf x1 w).bind fun o4 =>
      (m_X5_setHomeOf x1 x2 w).bind fun o5 =>
      some (o4, o5)
    else
    some ((-2 : Int32), w)
  else
  some ((-1 : Int32), w)
def m_X3_changeLimits_j50 (x1 : Int32) (x2 : Int32) (s0 : Int32) (w : Wd) : Option (Int32 × Wd) :=
lt (wset w 50 1 x1) fun w1 =>
lt (wset w1 50 2 x2) fun w2 =>
if s0 = 0 then
  some ((nI 0), w2)
else
some ((nI 1), w2)
def m_X3_changeLimits_j45 (x1 : Int32) (x2 : Int32) (w : Wd) : Option (Int32 × Wd) :=
m_X3_changeLimits_j50 x1 x2 (nI 1) w
def m_X3_changeLimits (x1 : Int32) (x2 : Int32) (w : Wd) : Option (Int32 × Wd) :=
  if x1 < 0 then
    some ((-1 : Int32), w)
  else
  if (nI 8) < x1 then
    some ((-1 : Int32), w)
  else
  if x2 < (nI 1) then
    some ((-1 : Int32), w)
  else
  if x2 ≤ (nI 12) then
    if ¬ x1 = (w 50 1) then
      m_X3_changeLimits_j45 x1 x2 w
    else
    if x2 = (w 50 2) then
      m_X3_changeLimits_j50 x1 x2 (nI 0) w
    else
    m_X3_changeLimits_j45 x1 x2 w
  else
  some ((-1 : Int32), w)
def m_X5_setCause (x1 : Int32) (x2 : Int32) (x3 : Int32) (x4 : Int32) (w : Wd) : Option (Wd) :=
  lt ((((((x1 * (nI 24)) + x2) - (nI 1)) * (nI 4)) + x3)) fun x5_1 =>
  if x5_1 < 0 then
    some w
  else
  if (nI 384) ≤ x5_1 then
    some w
  else
  if ib x5_1 384 then
  lt (wset w 55 x5_1.toNatClampNeg x4) fun w3 =>
    some w3
  else none
def m_X5_setWrittenOf (x1 : Int32) (x2 : Int32) (w : Wd) : Option (Wd) :=
  if x1 < 0 then
    some w
  else
  if (nI 4) ≤ x1 then
    some w
  else
  if ib x1 4 then
  lt (wset w 53 x1.toNatClampNeg x2) fun w2 =>
    some w2
  else none
def m_X7_updateOf (x0 : Int32) (x1 : Int32) : Option (Int32) :=
  some (((nI 100) * x0) + x1)
def m_X7_originOf (x0 : Int32) : Option (Int32) :=
  some (x0 / (nI 100))
def m_X7_versionOf (x0 : Int32) : Option (Int32) :=
  some (x0 - x0 / (nI 100) * (nI 100))
def m_X6_with (x0 : Int32) (x1 : Int32) : Option (Int32) :=
  if x1 < (nI 1) then
    some x0
  else
  if (nI 24) < x1 then
    some x0
  else
  some (x0 ||| ((nI 1) <<< ((x1 - (nI 1)) &&& 31)))
def m_J6_bitCount_0f7a4 (x0 : Int32) : Option (Int32) :=
  lt ((x0 - ((x0.toUInt32 >>> ((nI 1).toUInt32 &&& Int32.toUInt32 31)).toInt32 &&& (nI 1431655765)))) fun x0_1 =>
  lt (((x0_1 &&& (nI 858993459)) + ((x0_1.toUInt32 >>> ((nI 2).toUInt32 &&& Int32.toUInt32 31)).toInt32 &&& (nI 858993459)))) fun x0_2 =>
  lt (((x0_2 + (x0_2.toUInt32 >>> ((nI 4).toUInt32 &&& Int32.toUInt32 31)).toInt32) &&& (nI 252645135))) fun x0_3 =>
  lt ((x0_3 + (x0_3.toUInt32 >>> ((nI 8).toUInt32 &&& Int32.toUInt32 31)).toInt32)) fun x0_4 =>
  lt ((x0_4 + (x0_4.toUInt32 >>> ((nI 16).toUInt32 &&& Int32.toUInt32 31)).toInt32)) fun x0_5 =>
  some (x0_5 &&& (nI 63))
def m_X6_rangesIn (x0 : Int32) : Option (Int32) :=
  (m_J6_bitCount_0f7a4 ((x0 ^^^ (-1 : Int32)) &&& (x0 >>> ((nI 1) &&& 31)))).bind fun o1 =>
  some o1
def m_X5_rangesWith_j40 (x1 : Int32) (x2 : Int32) (x3 : Int32) (x5 : Int32) (s0 : Int32) (s1 : Int32) (w : Wd) (kc : Int32 → Int32 → Option (Int32)) : Option (Int32) :=
(m_X6_rangesIn s1).bind fun o1 =>
lt ((s0 + o1)) fun x4_2 =>
kc x4_2 (x5 + (nI 1))
def m_X5_rangesWith_L6 (x1 : Int32) (x2 : Int32) (x3 : Int32) (w : Wd) : Nat → Int32 → Int32 → Option (Int32)
  | 0, _, _ => none
  | n + 1, x4, x5 =>
    if (nI 4) ≤ x5 then
      some x4
    else
    (m_X5_knownOf x1 x5 w).bind fun o1 =>
    if ¬ x5 = x2 then
      m_X5_rangesWith_j40 x1 x2 x3 x5 x4 o1 w (m_X5_rangesWith_L6 x1 x2 x3 w n)
    else
    (m_X6_with o1 x3).bind fun o2 =>
    m_X5_rangesWith_j40 x1 x2 x3 x5 x4 o2 w (m_X5_rangesWith_L6 x1 x2 x3 w n)
def m_X5_rangesWith (x1 : Int32) (x2 : Int32) (x3 : Int32) (w : Wd) : Option (Int32) :=
  m_X5_rangesWith_L6 x1 x2 x3 w FU (nI 0) (nI 0)
def m_X5_addKnown (x1 : Int32) (x2 : Int32) (x3 : Int32) (w : Wd) : Option (Wd) :=
  lt (((x1 * (nI 4)) + x2)) fun x4_1 =>
  if x4_1 < 0 then
    some w
  else
  if (nI 32) ≤ x4_1 then
    some w
  else
  if ib x4_1 32 then
    (m_X6_with (w 54 x4_1.toNatClampNeg) x3).bind fun o3 =>
    if ib x4_1 32 then
    lt (wset w 54 x4_1.toNatClampNeg o3) fun w5 =>
      some w5
    else none
  else none
def m_X5_contentsOf_j26 (w : Wd) : Option (Nat) :=
some 48
def m_X5_contentsOf (x1 : Int32) (w : Wd) : Option (Nat) :=
  (m_X5_hasProxy x1 w).bind fun o1 =>
  if o1 = 0 then
    m_X5_contentsOf_j26 w
  else
  if (nI 8) ≤ x1 then
    m_X5_contentsOf_j26 w
  else
  if ib x1 8 then
    some (2 * x1.toNatClampNeg)
  else none
def m_X3_firstServed_L2 (q1 : Nat) (w : Wd) : Nat → Int32 → Option (Int32)
  | 0, _ => none
  | n + 1, x2 =>
    (m_X2_length q1 w).bind fun o1 =>
    if o1 ≤ x2 then
      some (nI 0)
    else
    (m_X2_at q1 x2 w).bind fun o2 =>
    (m_X7_versionOf o2).bind fun o3 =>
    (m_X7_originOf o2).bind fun o4 =>
    (m_X0_prefixFound o4 w).bind fun o5 =>
    if o5 < o3 then
      (m_X3_firstServed_L2 q1 w n) (x2 + (nI 1))
    else
    some x2
def m_X3_firstServed (q1 : Nat) (w : Wd) : Option (Int32) :=
  m_X3_firstServed_L2 q1 w FU (nI 0)
def m_X3_keepContent (x1 : Int32) (x2 : Int32) (w : Wd) : Option (Wd) :=
  (m_X5_contentsOf x1 w).bind fun o1 =>
  (m_X2_append o1 x2 w).bind fun o2 =>
  if x1 = 0 then
    some o2.2
  else
  (m_X2_length o1 o2.2).bind fun o3 =>
  if o3 ≤ (o2.2 50 2) then
    some o2.2
  else
  (m_X0_findServed x1 o2.2).bind fun o4 =>
  (m_X3_firstServed o1 o4).bind fun o5 =>
  (m_X2_removeAt o1 o5 o4).bind fun o6 =>
  lt (wset o6 50 6 ((o6 50 6) + (nI 1))) fun w7 =>
  some w7
def m_X5_parentOf (x1 : Int32) (w : Wd) : Option (Int32) :=
  if x1 < 0 then
    some (nI 0)
  else
  if (nI 8) ≤ x1 then
    some (nI 0)
  else
  if ib x1 8 then
    some (w 51 x1.toNatClampNeg)
  else none
def m_X5_hasChild (x1 : Int32) (w : Wd) : Option (Int32) :=
  if x1 ≤ 0 then
    some (nI 0)
  else
  if (w 50 0) ≤ x1 then
    some (nI 0)
  else
  some (nI 1)
def m_X5_queueOf_j14 (w : Wd) : Option (Nat) :=
some 48
def m_X5_queueOf (x1 : Int32) (x2 : Int32) (w : Wd) : Option (Nat) :=
  (m_X5_hasChild x1 w).bind fun o1 =>
  if o1 = 0 then
    m_X5_queueOf_j14 w
  else
  if x1 < (nI 8) then
    if ¬ x2 = 0 then
      if ib x1 8 then
        some (32 + 2 * x1.toNatClampNeg)
      else none
    else
    if ib x1 8 then
      some (16 + 2 * x1.toNatClampNeg)
    else none
  else
  m_X5_queueOf_j14 w
def m_X3_enqueue (q1 : Nat) (x2 : Int32) (w : Wd) : Option (Wd) :=
  (m_X2_append q1 x2 w).bind fun o1 =>
  if ¬ o1.1 = 0 then
    some o1.2
  else
  lt (wset o1.2 50 4 ((o1.2 50 4) + (nI 1))) fun w2 =>
  some w2
def m_X5_isChildOf (x1 : Int32) (x2 : Int32) (w : Wd) : Option (Int32) :=
  (m_X5_hasChild x1 w).bind fun o1 =>
  if o1 = 0 then
    some (nI 0)
  else
  (m_X5_parentOf x1 w).bind fun o2 =>
  if ¬ o2 = x2 then
    some (nI 0)
  else
  some (nI 1)
def m_X3_passOn_j79 (x1 : Int32) (x2 : Int32) (x3 : Int32) (x4 : Int32) (w : Wd) (kc : Int32 → Wd → Option (Wd)) : Option (Wd) :=
kc (x4 + (nI 1)) w
def m_X3_passOn_L33 (x1 : Int32) (x2 : Int32) (x3 : Int32) : Nat → Int32 → Wd → Option (Wd)
  | 0, _, _ => none
  | n + 1, x4, w =>
    if (w 50 0) ≤ x4 then
      some w
    else
    if x4 = x2 then
      m_X3_passOn_j79 x1 x2 x3 x4 w (m_X3_passOn_L33 x1 x2 x3 n)
    else
    (m_X5_isChildOf x4 x1 w).bind fun o1 =>
    if o1 = 0 then
      m_X3_passOn_j79 x1 x2 x3 x4 w (m_X3_passOn_L33 x1 x2 x3 n)
    else
    (m_X5_queueOf x4 (nI 1) w).bind fun o2 =>
    (m_X3_enqueue o2 x3 w).bind fun o3 =>
    m_X3_passOn_j79 x1 x2 x3 x4 o3 (m_X3_passOn_L33 x1 x2 x3 n)
def m_X3_passOn_j30 (x1 : Int32) (x2 : Int32) (x3 : Int32) (w : Wd) : Option (Wd) :=
m_X3_passOn_L33 x1 x2 x3 FU (nI 1) w
def m_X3_passOn (x1 : Int32) (x2 : Int32) (x3 : Int32) (w : Wd) : Option (Wd) :=
  if x1 = 0 then
    m_X3_passOn_j30 x1 x2 x3 w
  else
  (m_X5_parentOf x1 w).bind fun o1 =>
  if o1 = x2 then
    m_X3_passOn_j30 x1 x2 x3 w
  else
  (m_X5_queueOf x1 (nI 0) w).bind fun o2 =>
  (m_X3_enqueue o2 x3 w).bind fun o3 =>
  m_X3_passOn_j30 x1 x2 x3 o3
def m_X3_arrive_j75 (x1 : Int32) (x2 : Int32) (x3 : Int32) (x4 : Int32) (x5 : Int32) (w : Wd) : Option (Int32 × Wd) :=
(m_X5_addKnown x1 x4 x5 w).bind fun o1 =>
(m_X3_keepContent x1 x3 o1).bind fun o2 =>
(m_X3_passOn x1 x2 x3 o2).bind fun o3 =>
some ((nI 1), o3)
def m_X3_arrive (x1 : Int32) (x2 : Int32) (x3 : Int32) (w : Wd) : Option (Int32 × Wd) :=
  (m_X7_originOf x3).bind fun o1 =>
  (m_X7_versionOf x3).bind fun o2 =>
  (m_X5_knows x1 o1 o2 w).bind fun o3 =>
  if o3 = 0 then
    if x1 = 0 then
      m_X3_arrive_j75 x1 x2 x3 o1 o2 w
    else
    if x2 = (-1 : Int32) then
      m_X3_arrive_j75 x1 x2 x3 o1 o2 w
    else
    (m_X5_rangesWith x1 o1 o2 w).bind fun o4 =>
    if o4 ≤ (w 50 1) then
      m_X3_arrive_j75 x1 x2 x3 o1 o2 w
    else
    lt (wset w 50 3 ((w 50 3) + (nI 1))) fun w5 =>
    some ((nI 0), w5)
  else
  some ((nI 0), w)
def m_X3_makeWrite_j91 (x1 : Int32) (x2 : Int32) (x3 : Int32) (x4 : Int32) (s1 : Int32) (s2 : Int32) (s3 : Int32) (s4 : Int32) (w : Wd) (kc : Int32 → Wd → Option (Int32 × Wd)) (kx100 : Wd → Option (Int32 × Wd)) : Option (Int32 × Wd) :=
(m_X5_setCause s1 s2 s3 s4 w).bind fun o1 =>
kc (x4 + (nI 1)) o1
def m_X3_makeWrite_L56 (x1 : Int32) (x2 : Int32) (x3 : Int32) (kx100 : Wd → Option (Int32 × Wd)) : Nat → Int32 → Wd → Option (Int32 × Wd)
  | 0, _, _ => none
  | n + 1, x4, w =>
    if (nI 4) ≤ x4 then
      kx100 w
    else
    if ¬ x4 = x1 then
      (m_X0_prefixFound x4 w).bind fun o1 =>
      m_X3_makeWrite_j91 x1 x2 x3 x4 x1 x3 x4 o1 w (m_X3_makeWrite_L56 x1 x2 x3 kx100 n) kx100
    else
    m_X3_makeWrite_j91 x1 x2 x3 x4 x1 x3 x4 (x3 - (nI 1)) w (m_X3_makeWrite_L56 x1 x2 x3 kx100 n) kx100
def m_X3_makeWrite (x1 : Int32) (w : Wd) : Option (Int32 × Wd) :=
  (m_X7_isOrigin x1).bind fun o1 =>
  if ¬ o1 = 0 then
    (m_X5_writtenOf x1 w).bind fun o2 =>
    if o2 < (nI 24) then
      (m_X5_homeOf x1 w).bind fun o3 =>
      (m_X5_writtenOf x1 w).bind fun o4 =>
      lt ((o4 + (nI 1))) fun x3_5 =>
      (m_X0_findServed o3 w).bind fun o6 =>
      m_X3_makeWrite_L56 x1 o3 x3_5 (fun w7 =>
        (m_X5_setWrittenOf x1 x3_5 w7).bind fun o8 =>
        (m_X7_updateOf x1 x3_5).bind fun o9 =>
        (m_X3_arrive o3 (-1 : Int32) o9 o8).bind fun o10 =>
        some (x3_5, o10.2)) FU (nI 0) o6
    else
    some ((-3 : Int32), w)
  else
  some ((-1 : Int32), w)
def m_X5_hasQueue_j17 (w : Wd) : Option (Int32) :=
some (nI 1)
def m_X5_hasQueue (x1 : Int32) (x2 : Int32) (w : Wd) : Option (Int32) :=
  (m_X5_hasChild x1 w).bind fun o1 =>
  if o1 = 0 then
    some (nI 0)
  else
  if x2 = 0 then
    m_X5_hasQueue_j17 w
  else
  if ¬ x2 = (nI 1) then
    some (nI 0)
  else
  m_X5_hasQueue_j17 w
def m_X3_isTakeable (x0 : Int32) : Option (Int32) :=
  if x0 < (nI 1) then
    some (nI 0)
  else
  if (nI 9) < x0 then
    some (nI 0)
  else
  some (nI 1)
def m_X3_deliverFirst_j127 (q4 : Nat) (x3 : Int32) (x6 : Int32) (x7 : Int32) (x8 : Int32) (x9 : Int32) (w : Wd) (kc : Int32 → Int32 → Wd → Option (Int32 × Wd)) : Option (Int32 × Wd) :=
kc x8 (x9 + (nI 1)) w
def m_X3_deliverFirst_L83 (q4 : Nat) (x3 : Int32) (x6 : Int32) (x7 : Int32) : Nat → Int32 → Int32 → Wd → Option (Int32 × Wd)
  | 0, _, _, _ => none
  | n + 1, x8, x9, w =>
    if x3 ≤ x9 then
      some (x8, w)
    else
    (m_X2_length q4 w).bind fun o1 =>
    if o1 ≤ 0 then
      some (x8, w)
    else
    (m_X2_at q4 (nI 0) w).bind fun o2 =>
    (m_X2_removeAt q4 (nI 0) w).bind fun o3 =>
    (m_X3_arrive x6 x7 o2 o3).bind fun o4 =>
    if o4.1 = 0 then
      m_X3_deliverFirst_j127 q4 x3 x6 x7 x8 x9 o4.2 (m_X3_deliverFirst_L83 q4 x3 x6 x7 n)
    else
    m_X3_deliverFirst_j127 q4 x3 x6 x7 (x8 + (nI 1)) x9 o4.2 (m_X3_deliverFirst_L83 q4 x3 x6 x7 n)
def m_X3_deliverFirst_j75 (q4 : Nat) (x3 : Int32) (x6 : Int32) (s0 : Int32) (w : Wd) : Option (Int32 × Wd) :=
m_X3_deliverFirst_L83 q4 x3 x6 s0 FU (nI 0) (nI 0) w
def m_X3_deliverFirst_j63 (q4 : Nat) (x1 : Int32) (x2 : Int32) (x3 : Int32) (x5 : Int32) (s0 : Int32) (w : Wd) : Option (Int32 × Wd) :=
if ¬ x2 = 0 then
  m_X3_deliverFirst_j75 q4 x3 s0 x5 w
else
m_X3_deliverFirst_j75 q4 x3 s0 x1 w
def m_X3_deliverFirst (x1 : Int32) (x2 : Int32) (x3 : Int32) (w : Wd) : Option (Int32 × Wd) :=
  (m_X5_hasQueue x1 x2 w).bind fun o1 =>
  if o1 = 0 then
    some ((-1 : Int32), w)
  else
  (m_X3_isTakeable x3).bind fun o2 =>
  if ¬ o2 = 0 then
    (m_X5_queueOf x1 x2 w).bind fun o3 =>
    (m_X2_length o3 w).bind fun o4 =>
    if ¬ o4 = 0 then
      (m_X5_parentOf x1 w).bind fun o5 =>
      if ¬ x2 = 0 then
        m_X3_deliverFirst_j63 o3 x1 x2 x3 o5 x1 w
      else
      m_X3_deliverFirst_j63 o3 x1 x2 x3 o5 o5 w
    else
    some ((-2 : Int32), w)
  else
  some ((-1 : Int32), w)
def m_X3_loseFirst_L57 (q4 : Nat) (x5 : Int32) (kx76 : Wd → Option (Int32 × Wd)) : Nat → Int32 → Wd → Option (Int32 × Wd)
  | 0, _, _ => none
  | n + 1, x6, w =>
    if x5 ≤ x6 then
      kx76 w
    else
    (m_X2_removeAt q4 (nI 0) w).bind fun o1 =>
    (m_X3_loseFirst_L57 q4 x5 kx76 n) (x6 + (nI 1)) o1
def m_X3_loseFirst (x1 : Int32) (x2 : Int32) (x3 : Int32) (w : Wd) : Option (Int32 × Wd) :=
  (m_X5_hasQueue x1 x2 w).bind fun o1 =>
  if o1 = 0 then
    some ((-1 : Int32), w)
  else
  (m_X3_isTakeable x3).bind fun o2 =>
  if ¬ o2 = 0 then
    (m_X5_queueOf x1 x2 w).bind fun o3 =>
    (m_X2_length o3 w).bind fun o4 =>
    if ¬ o4 = 0 then
      (m_X2_length o3 w).bind fun o5 =>
      lt ((if o5 < x3 then o5 else x3)) fun x5_6 =>
      m_X3_loseFirst_L57 o3 x5_6 (fun w7 =>
        lt (wset w7 50 5 ((w7 50 5) + x5_6)) fun w8 =>
        some (x5_6, w8)) FU (nI 0) w
    else
    some ((-2 : Int32), w)
  else
  some ((-1 : Int32), w)
def m_X5_wasWritten (x1 : Int32) (x2 : Int32) (w : Wd) : Option (Int32) :=
  (m_X7_isOrigin x1).bind fun o1 =>
  if o1 = 0 then
    some (nI 0)
  else
  if x2 < (nI 1) then
    some (nI 0)
  else
  (m_X5_writtenOf x1 w).bind fun o2 =>
  if o2 < x2 then
    some (nI 0)
  else
  some (nI 1)
def m_X5_keeps (x1 : Int32) (x2 : Int32) (w : Wd) : Option (Int32) :=
  (m_X5_contentsOf x1 w).bind fun o1 =>
  (m_X2_has o1 x2 w).bind fun o2 =>
  some (o2 &&& 1)
def m_X3_hopsToContent_L5 (x2 : Int32) (w : Wd) : Nat → Int32 → Int32 → Option (Int32)
  | 0, _, _ => none
  | n + 1, x3, x4 =>
    if (nI 8) ≤ x4 then
      some (-9 : Int32)
    else
    (m_X5_keeps x3 x2 w).bind fun o1 =>
    if o1 = 0 then
      if ¬ x3 = 0 then
        (m_X5_parentOf x3 w).bind fun o2 =>
        (m_X3_hopsToContent_L5 x2 w n) o2 (x4 + (nI 1))
      else
      some (-9 : Int32)
    else
    some x4
def m_X3_hopsToContent (x1 : Int32) (x2 : Int32) (w : Wd) : Option (Int32) :=
  m_X3_hopsToContent_L5 x2 w FU x1 (nI 0)
def m_X3_fetchContent (x1 : Int32) (x2 : Int32) (x3 : Int32) (w : Wd) : Option (Int32 × Wd) :=
  (m_X5_hasProxy x1 w).bind fun o1 =>
  if o1 = 0 then
    some ((-1 : Int32), w)
  else
  (m_X5_wasWritten x2 x3 w).bind fun o2 =>
  if ¬ o2 = 0 then
    (m_X0_servedOf x1 x2 w).bind fun o3 =>
    if x3 ≤ o3.1 then
      (m_X7_updateOf x2 x3).bind fun o4 =>
      (m_X3_hopsToContent x1 o4 o3.2).bind fun o5 =>
      if o5 ≤ 0 then
        some (o5, o3.2)
      else
      (m_X3_keepContent x1 o4 o3.2).bind fun o6 =>
      some (o5, o6)
    else
    some ((-2 : Int32), o3.2)
  else
  some ((-1 : Int32), w)
def m_X5_isAbove_L5 (x1 : Int32) (w : Wd) : Nat → Int32 → Int32 → Option (Int32)
  | 0, _, _ => none
  | n + 1, x3, x4 =>
    if x3 = 0 then
      some (nI 0)
    else
    if (nI 8) ≤ x4 then
      some (nI 0)
    else
    (m_X5_parentOf x3 w).bind fun o1 =>
    if ¬ o1 = x1 then
      (m_X5_isAbove_L5 x1 w n) o1 (x4 + (nI 1))
    else
    some (nI 1)
def m_X5_isAbove (x1 : Int32) (x2 : Int32) (w : Wd) : Option (Int32) :=
  m_X5_isAbove_L5 x1 w FU x2 (nI 0)
def m_X6_greatest_L3 (x0 : Int32) : Nat → Int32 → Option (Int32)
  | 0, _ => none
  | n + 1, x1 =>
    if x1 ≤ 0 then
      some x1
    else
    if ¬ ((x0 >>> ((x1 - (nI 1)) &&& 31)) &&& (nI 1)) = 0 then
      some x1
    else
    (m_X6_greatest_L3 x0 n) (x1 + (-1 : Int32))
def m_X6_greatest (x0 : Int32) : Option (Int32) :=
  m_X6_greatest_L3 x0 FU (nI 24)
def m_X3_findGapsToFill_j89 (x1 : Int32) (x2 : Int32) (x3 : Int32) (x4 : Int32) (x5 : Int32) (w : Wd) (kc : Int32 → Wd → Option (Wd)) (kx95 : Wd → Option (Wd)) : Option (Wd) :=
kc (x5 + (nI 1)) w
def m_X3_findGapsToFill_L40 (x1 : Int32) (x2 : Int32) (x3 : Int32) (x4 : Int32) (kx95 : Wd → Option (Wd)) : Nat → Int32 → Wd → Option (Wd)
  | 0, _, _ => none
  | n + 1, x5, w =>
    if x4 ≤ x5 then
      kx95 w
    else
    (m_X5_knows x1 x3 x5 w).bind fun o1 =>
    if ¬ o1 = 0 then
      m_X3_findGapsToFill_j89 x1 x2 x3 x4 x5 w (m_X3_findGapsToFill_L40 x1 x2 x3 x4 kx95 n) kx95
    else
    (m_X5_knows x2 x3 x5 w).bind fun o2 =>
    if o2 = 0 then
      m_X3_findGapsToFill_j89 x1 x2 x3 x4 x5 w (m_X3_findGapsToFill_L40 x1 x2 x3 x4 kx95 n) kx95
    else
    (m_X7_updateOf x3 x5).bind fun o3 =>
    (m_X2_append 480 o3 w).bind fun o4 =>
    m_X3_findGapsToFill_j89 x1 x2 x3 x4 x5 o4.2 (m_X3_findGapsToFill_L40 x1 x2 x3 x4 kx95 n) kx95
def m_X3_findGapsToFill_L18 (x1 : Int32) (x2 : Int32) : Nat → Int32 → Wd → Option (Wd)
  | 0, _, _ => none
  | n + 1, x3, w =>
    if (nI 4) ≤ x3 then
      some w
    else
    (m_X5_knownOf x1 x3 w).bind fun o1 =>
    (m_X6_greatest o1).bind fun o2 =>
    m_X3_findGapsToFill_L40 x1 x2 x3 o2 (fun w3 =>
      (m_X3_findGapsToFill_L18 x1 x2 n) (x3 + (nI 1)) w3) FU (nI 1) w
def m_X3_findGapsToFill (x1 : Int32) (w : Wd) : Option (Wd) :=
  (m_X5_parentOf x1 w).bind fun o1 =>
  (m_X2_clear 480 w).bind fun o2 =>
  m_X3_findGapsToFill_L18 x1 o1 FU (nI 0) o2
def m_X3_askUpward_j115 (x1 : Int32) (x2 : Int32) (x3 : Int32) (x4 : Int32) (x5 : Int32) (x6 : Int32) (w : Wd) (kc : Int32 → Int32 → Wd → Option (Int32 × Wd)) (kx121 : Int32 → Wd → Option (Int32 × Wd)) : Option (Int32 × Wd) :=
kc x4 (x6 + (nI 1)) w
def m_X3_askUpward_L73 (x1 : Int32) (x2 : Int32) (x3 : Int32) (x5 : Int32) (kx121 : Int32 → Wd → Option (Int32 × Wd)) : Nat → Int32 → Int32 → Wd → Option (Int32 × Wd)
  | 0, _, _, _ => none
  | n + 1, x4, x6, w =>
    (m_X2_length 480 w).bind fun o1 =>
    if o1 ≤ x6 then
      kx121 x4 w
    else
    (m_X5_parentOf x5 w).bind fun o2 =>
    (m_X2_at 480 x6 w).bind fun o3 =>
    (m_X3_arrive x5 o2 o3 w).bind fun o4 =>
    if o4.1 = 0 then
      m_X3_askUpward_j115 x1 x2 x3 x4 x5 x6 o4.2 (m_X3_askUpward_L73 x1 x2 x3 x5 kx121 n) kx121
    else
    m_X3_askUpward_j115 x1 x2 x3 (x4 + (nI 1)) x5 x6 o4.2 (m_X3_askUpward_L73 x1 x2 x3 x5 kx121 n) kx121
def m_X3_askUpward_j126 (x1 : Int32) (x2 : Int32) (x3 : Int32) (x4 : Int32) (x5 : Int32) (w : Wd) (kc : Int32 → Int32 → Int32 → Wd → Option (Int32 × Wd)) (kx132 : Int32 → Int32 → Wd → Option (Int32 × Wd)) : Option (Int32 × Wd) :=
kc x3 x4 (x5 + (nI 1)) w
def m_X3_askUpward_j61 (x1 : Int32) (x2 : Int32) (x3 : Int32) (x5 : Int32) (w : Wd) (kc : Int32 → Int32 → Int32 → Wd → Option (Int32 × Wd)) (kx132 : Int32 → Int32 → Wd → Option (Int32 × Wd)) : Option (Int32 × Wd) :=
(m_X3_findGapsToFill x5 w).bind fun o1 =>
m_X3_askUpward_L73 x1 x2 x3 x5 (fun x4_2 w3 =>
  lt ((x3 + x4_2)) fun x3_4 =>
  m_X3_askUpward_j126 x1 x2 x3_4 x4_2 x5 w3 kc kx132) FU (nI 0) (nI 0) o1
def m_X3_askUpward_L29 (x1 : Int32) (x2 : Int32) (kx132 : Int32 → Int32 → Wd → Option (Int32 × Wd)) : Nat → Int32 → Int32 → Int32 → Wd → Option (Int32 × Wd)
  | 0, _, _, _, _ => none
  | n + 1, x3, x4, x5, w =>
    if (nI 8) ≤ x5 then
      kx132 x3 x4 w
    else
    if x1 < x5 then
      kx132 x3 x4 w
    else
    if x5 = x1 then
      m_X3_askUpward_j61 x1 x2 x3 x5 w (m_X3_askUpward_L29 x1 x2 kx132 n) kx132
    else
    (m_X5_isAbove x5 x1 w).bind fun o1 =>
    if o1 = 0 then
      m_X3_askUpward_j126 x1 x2 x3 x4 x5 w (m_X3_askUpward_L29 x1 x2 kx132 n) kx132
    else
    m_X3_askUpward_j61 x1 x2 x3 x5 w (m_X3_askUpward_L29 x1 x2 kx132 n) kx132
def m_X3_askUpward_j132 (x2 : Int32) (x3 : Int32) (x4 : Int32) (w : Wd) : Option (Int32 × Wd) :=
if ¬ x3 = 0 then
  some (x4, w)
else
if ¬ (w 50 3) = x2 then
  some (x4, w)
else
some ((-9 : Int32), w)
def m_X3_askUpward (x1 : Int32) (w : Wd) : Option (Int32 × Wd) :=
  (m_X5_hasChild x1 w).bind fun o1 =>
  if ¬ o1 = 0 then
    lt ((w 50 3)) fun x2_2 =>
    m_X3_askUpward_L29 x1 x2_2 (fun x3_3 x4_4 w5 =>
      m_X3_askUpward_j132 x2_2 x3_3 x4_4 w5) FU (nI 0) (nI 0) (nI 1) w
  else
  some ((-1 : Int32), w)
def m_X5_childrenOf_j24 (x1 : Int32) (x2 : Int32) (x3 : Int32) (w : Wd) (kc : Int32 → Int32 → Option (Int32)) : Option (Int32) :=
kc x2 (x3 + (nI 1))
def m_X5_childrenOf_L4 (x1 : Int32) (w : Wd) : Nat → Int32 → Int32 → Option (Int32)
  | 0, _, _ => none
  | n + 1, x2, x3 =>
    if (w 50 0) ≤ x3 then
      some x2
    else
    (m_X5_isChildOf x3 x1 w).bind fun o1 =>
    if o1 = 0 then
      m_X5_childrenOf_j24 x1 x2 x3 w (m_X5_childrenOf_L4 x1 w n)
    else
    m_X5_childrenOf_j24 x1 (x2 + (nI 1)) x3 w (m_X5_childrenOf_L4 x1 w n)
def m_X5_childrenOf (x1 : Int32) (w : Wd) : Option (Int32) :=
  m_X5_childrenOf_L4 x1 w FU (nI 0) (nI 1)
def m_X5_stepsToRoot_L4 (w : Wd) : Nat → Int32 → Int32 → Option (Int32)
  | 0, _, _ => none
  | n + 1, x2, x3 =>
    if x3 = 0 then
      some x2
    else
    if (nI 8) ≤ x2 then
      some x2
    else
    (m_X5_parentOf x3 w).bind fun o1 =>
    (m_X5_stepsToRoot_L4 w n) (x2 + (nI 1)) o1
def m_X5_stepsToRoot (x1 : Int32) (w : Wd) : Option (Int32) :=
  m_X5_stepsToRoot_L4 w FU (nI 0) x1
def m_X5_writtenCount_L4 (w : Wd) : Nat → Int32 → Int32 → Option (Int32)
  | 0, _, _ => none
  | n + 1, x1, x2 =>
    if (nI 4) ≤ x2 then
      some x1
    else
    (m_X5_writtenOf x2 w).bind fun o1 =>
    lt ((x1 + o1)) fun x1_2 =>
    (m_X5_writtenCount_L4 w n) x1_2 (x2 + (nI 1))
def m_X5_writtenCount (w : Wd) : Option (Int32) :=
  m_X5_writtenCount_L4 w FU (nI 0) (nI 0)
def m_X6_sizeOf (x0 : Int32) : Option (Int32) :=
  (m_J6_bitCount_0f7a4 x0).bind fun o1 =>
  some o1
def m_X5_knownCount_L4 (x1 : Int32) (w : Wd) : Nat → Int32 → Int32 → Option (Int32)
  | 0, _, _ => none
  | n + 1, x2, x3 =>
    if (nI 4) ≤ x3 then
      some x2
    else
    (m_X5_knownOf x1 x3 w).bind fun o1 =>
    (m_X6_sizeOf o1).bind fun o2 =>
    lt ((x2 + o2)) fun x2_3 =>
    (m_X5_knownCount_L4 x1 w n) x2_3 (x3 + (nI 1))
def m_X5_knownCount (x1 : Int32) (w : Wd) : Option (Int32) :=
  m_X5_knownCount_L4 x1 w FU (nI 0) (nI 0)
def m_X6_exceptionsIn (x0 : Int32) : Option (Int32) :=
  (m_X6_greatest x0).bind fun o1 =>
  (m_X6_sizeOf x0).bind fun o2 =>
  some (o1 - o2)
def m_X5_exceptionCount_L4 (x1 : Int32) (w : Wd) : Nat → Int32 → Int32 → Option (Int32)
  | 0, _, _ => none
  | n + 1, x2, x3 =>
    if (nI 4) ≤ x3 then
      some x2
    else
    (m_X5_knownOf x1 x3 w).bind fun o1 =>
    (m_X6_exceptionsIn o1).bind fun o2 =>
    lt ((x2 + o2)) fun x2_3 =>
    (m_X5_exceptionCount_L4 x1 w n) x2_3 (x3 + (nI 1))
def m_X5_exceptionCount (x1 : Int32) (w : Wd) : Option (Int32) :=
  m_X5_exceptionCount_L4 x1 w FU (nI 0) (nI 0)
def m_X5_vectorSize_j33 (x1 : Int32) (x3 : Int32) (s0 : Int32) (s1 : Int32) (s2 : Int32) (w : Wd) (kc : Int32 → Int32 → Option (Int32)) : Option (Int32) :=
lt ((s0 + (s1 + s2))) fun x2_1 =>
kc x2_1 (x3 + (nI 1))
def m_X5_vectorSize_L4 (x1 : Int32) (w : Wd) : Nat → Int32 → Int32 → Option (Int32)
  | 0, _, _ => none
  | n + 1, x2, x3 =>
    if (nI 4) ≤ x3 then
      some x2
    else
    (m_X5_knownOf x1 x3 w).bind fun o1 =>
    (m_X6_rangesIn o1).bind fun o2 =>
    if o1 = 0 then
      m_X5_vectorSize_j33 x1 x3 x2 o2 (nI 0) w (m_X5_vectorSize_L4 x1 w n)
    else
    m_X5_vectorSize_j33 x1 x3 x2 o2 (nI 1) w (m_X5_vectorSize_L4 x1 w n)
def m_X5_vectorSize (x1 : Int32) (w : Wd) : Option (Int32) :=
  m_X5_vectorSize_L4 x1 w FU (nI 0) (nI 0)
def m_X7_commitIfDone (x1 : Int32) (w : Wd) : Option (Int32 × Wd) :=
  if x1 < 0 then
    some (x1, w)
  else
  (m_X1_commit w).bind fun o1 =>
  some (x1, o1)
def m_X7_addProxy (x1 : Int32) (w : Wd) : Option (Int32 × Wd) :=
  (m_X1_stage w).bind fun o1 =>
  (m_X3_insertProxy x1 o1).bind fun o2 =>
  (m_X7_commitIfDone o2.1 o2.2).bind fun o3 =>
  some (o3.1, o3.2)
def m_X7_setHome (x1 : Int32) (x2 : Int32) (w : Wd) : Option (Int32 × Wd) :=
  (m_X1_stage w).bind fun o1 =>
  (m_X3_changeHome x1 x2 o1).bind fun o2 =>
  (m_X7_commitIfDone o2.1 o2.2).bind fun o3 =>
  some (o3.1, o3.2)
def m_X7_setLimits (x1 : Int32) (x2 : Int32) (w : Wd) : Option (Int32 × Wd) :=
  (m_X1_stage w).bind fun o1 =>
  (m_X3_changeLimits x1 x2 o1).bind fun o2 =>
  (m_X7_commitIfDone o2.1 o2.2).bind fun o3 =>
  some (o3.1, o3.2)
def m_X7_proxy (x1 : Int32) (x2 : Int32) (w : Wd) : Option (Int32 × Wd) :=
  (m_X5_hasProxy x1 w).bind fun o1 =>
  if ¬ o1 = 0 then
    if x2 = (nI 0) then
      if ¬ x1 = 0 then
        (m_X5_parentOf x1 w).bind fun o2 =>
        some (o2, w)
      else
      some ((-9 : Int32), w)
    else
    if x2 = (nI 1) then
      (m_X5_stepsToRoot x1 w).bind fun o3 =>
      some (o3, w)
    else
    if x2 = (nI 2) then
      (m_X5_childrenOf x1 w).bind fun o4 =>
      some (o4, w)
    else
    if x2 = (nI 3) then
      (m_X5_knownCount x1 w).bind fun o5 =>
      some (o5, w)
    else
    if x2 = (nI 4) then
      (m_X0_servedCount x1 w).bind fun o6 =>
      some (o6.1, o6.2)
    else
    if x2 = (nI 5) then
      (m_X5_contentsOf x1 w).bind fun o7 =>
      (m_X2_length o7 w).bind fun o8 =>
      some (o8, w)
    else
    if x2 = (nI 6) then
      (m_X5_vectorSize x1 w).bind fun o9 =>
      some (o9, w)
    else
    if x2 = (nI 7) then
      (m_X5_exceptionCount x1 w).bind fun o10 =>
      some (o10, w)
    else
    some ((-1 : Int32), w)
  else
  some ((-1 : Int32), w)
def m_X7_count (x1 : Int32) (w : Wd) : Option (Int32) :=
  if x1 = (nI 0) then
    some (w 50 0)
  else
  if x1 = (nI 1) then
    some (w 50 1)
  else
  if x1 = (nI 2) then
    some (w 50 2)
  else
  if x1 = (nI 3) then
    (m_X5_writtenCount w).bind fun o1 =>
    some o1
  else
  if x1 = (nI 4) then
    some (w 50 3)
  else
  if x1 = (nI 5) then
    some (w 50 4)
  else
  if x1 = (nI 6) then
    some (w 50 5)
  else
  if x1 = (nI 7) then
    some (w 50 6)
  else
  if x1 = (nI 8) then
    (m_X1_savedCount w).bind fun o2 =>
    some o2
  else
  some (-1 : Int32)
def m_X7_write (x1 : Int32) (w : Wd) : Option (Int32 × Wd) :=
  (m_X1_stage w).bind fun o1 =>
  (m_X3_makeWrite x1 o1).bind fun o2 =>
  (m_X7_commitIfDone o2.1 o2.2).bind fun o3 =>
  some (o3.1, o3.2)
def m_X7_cause (x1 : Int32) (x2 : Int32) (x3 : Int32) (w : Wd) : Option (Int32) :=
  (m_X7_isOrigin x3).bind fun o1 =>
  if o1 = 0 then
    some (-1 : Int32)
  else
  (m_X5_wasWritten x1 x2 w).bind fun o2 =>
  if ¬ o2 = 0 then
    (m_X5_causeOf x1 x2 x3 w).bind fun o3 =>
    some o3
  else
  some (-1 : Int32)
def m_X7_deliver (x1 : Int32) (x2 : Int32) (x3 : Int32) (w : Wd) : Option (Int32 × Wd) :=
  (m_X1_stage w).bind fun o1 =>
  (m_X3_deliverFirst x1 x2 x3 o1).bind fun o2 =>
  (m_X7_commitIfDone o2.1 o2.2).bind fun o3 =>
  some (o3.1, o3.2)
def m_X7_lose (x1 : Int32) (x2 : Int32) (x3 : Int32) (w : Wd) : Option (Int32 × Wd) :=
  (m_X1_stage w).bind fun o1 =>
  (m_X3_loseFirst x1 x2 x3 o1).bind fun o2 =>
  (m_X7_commitIfDone o2.1 o2.2).bind fun o3 =>
  some (o3.1, o3.2)
def m_X7_queued (x1 : Int32) (x2 : Int32) (x3 : Int32) (w : Wd) : Option (Int32) :=
  (m_X5_hasQueue x1 x2 w).bind fun o1 =>
  if o1 = 0 then
    some (-1 : Int32)
  else
  if (-1 : Int32) ≤ x3 then
    (m_X5_queueOf x1 x2 w).bind fun o2 =>
    if ¬ x3 = (-1 : Int32) then
      (m_X2_length o2 w).bind fun o3 =>
      if o3 ≤ x3 then
        some (-9 : Int32)
      else
      (m_X2_at o2 x3 w).bind fun o4 =>
      some o4
    else
    (m_X2_length o2 w).bind fun o5 =>
    some o5
  else
  some (-1 : Int32)
def m_X7_served (x1 : Int32) (x2 : Int32) (w : Wd) : Option (Int32 × Wd) :=
  (m_X5_hasProxy x1 w).bind fun o1 =>
  if o1 = 0 then
    some ((-1 : Int32), w)
  else
  (m_X7_isOrigin x2).bind fun o2 =>
  if ¬ o2 = 0 then
    (m_X0_servedOf x1 x2 w).bind fun o3 =>
    some (o3.1, o3.2)
  else
  some ((-1 : Int32), w)
def m_X7_status (x1 : Int32) (x2 : Int32) (x3 : Int32) (w : Wd) : Option (Int32 × Wd) :=
  (m_X5_hasProxy x1 w).bind fun o1 =>
  if o1 = 0 then
    some ((-1 : Int32), w)
  else
  (m_X5_wasWritten x2 x3 w).bind fun o2 =>
  if ¬ o2 = 0 then
    (m_X5_knows x1 x2 x3 w).bind fun o3 =>
    if ¬ o3 = 0 then
      (m_X0_servedOf x1 x2 w).bind fun o4 =>
      if x3 ≤ o4.1 then
        (m_X7_updateOf x2 x3).bind fun o5 =>
        (m_X5_keeps x1 o5 o4.2).bind fun o6 =>
        if o6 = 0 then
          some ((nI 2), o4.2)
        else
        some ((nI 3), o4.2)
      else
      some ((nI 1), o4.2)
    else
    some ((nI 0), w)
  else
  some ((-1 : Int32), w)
def m_X7_missing (x1 : Int32) (x2 : Int32) (x3 : Int32) (w : Wd) : Option (Int32 × Wd) :=
  (m_X5_hasProxy x1 w).bind fun o1 =>
  if o1 = 0 then
    some ((-1 : Int32), w)
  else
  (m_X5_wasWritten x2 x3 w).bind fun o2 =>
  if ¬ o2 = 0 then
    (m_X0_countMissing x1 x2 x3 w).bind fun o3 =>
    some (o3.1, o3.2)
  else
  some ((-1 : Int32), w)
def m_X7_kept (x1 : Int32) (x2 : Int32) (w : Wd) : Option (Int32) :=
  (m_X5_hasProxy x1 w).bind fun o1 =>
  if o1 = 0 then
    some (-1 : Int32)
  else
  if 0 ≤ x2 then
    (m_X5_contentsOf x1 w).bind fun o2 =>
    (m_X2_length o2 w).bind fun o3 =>
    if o3 ≤ x2 then
      some (-9 : Int32)
    else
    (m_X2_at o2 x2 w).bind fun o4 =>
    some o4
  else
  some (-1 : Int32)
def m_X7_read (x1 : Int32) (x2 : Int32) (x3 : Int32) (w : Wd) : Option (Int32 × Wd) :=
  (m_X1_stage w).bind fun o1 =>
  (m_X3_fetchContent x1 x2 x3 o1).bind fun o2 =>
  (m_X7_commitIfDone o2.1 o2.2).bind fun o3 =>
  some (o3.1, o3.2)
def m_X7_ask (x1 : Int32) (w : Wd) : Option (Int32 × Wd) :=
  (m_X1_stage w).bind fun o1 =>
  (m_X3_askUpward x1 o1).bind fun o2 =>
  (m_X7_commitIfDone o2.1 o2.2).bind fun o3 =>
  some (o3.1, o3.2)
def m_X7_upToDate_j38 (x1 : Int32) (x2 : Int32) (x3 : Int32) (w : Wd) (kc : Int32 → Int32 → Wd → Option (Int32 × Wd)) : Option (Int32 × Wd) :=
kc x2 (x3 + (nI 1)) w
def m_X7_upToDate_L12 (x1 : Int32) : Nat → Int32 → Int32 → Wd → Option (Int32 × Wd)
  | 0, _, _, _ => none
  | n + 1, x2, x3, w =>
    if (w 50 0) ≤ x3 then
      some (x2, w)
    else
    (m_X0_servedCount x3 w).bind fun o1 =>
    if ¬ o1.1 = x1 then
      m_X7_upToDate_j38 x1 x2 x3 o1.2 (m_X7_upToDate_L12 x1 n)
    else
    m_X7_upToDate_j38 x1 (x2 + (nI 1)) x3 o1.2 (m_X7_upToDate_L12 x1 n)
def m_X7_upToDate (w : Wd) : Option (Int32 × Wd) :=
  (m_X5_writtenCount w).bind fun o1 =>
  m_X7_upToDate_L12 o1 FU (nI 0) (nI 0) w
