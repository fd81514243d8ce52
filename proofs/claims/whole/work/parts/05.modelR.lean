/-! ===== the reference, likewise ===== -/
def m_X8_in (x0 : Int32) (x1 : Int32) (x2 : Int32) : Option (Int32) :=
  if x0 < x1 then
    some (nI 0)
  else
  if x2 < x0 then
    some (nI 0)
  else
  some (nI 1)
def m_X8_hold_L2 : Nat → Int32 → Wd → Option (Wd)
  | 0, _, _ => none
  | n + 1, x1, w =>
    if (nI 1423) ≤ x1 then
      some w
    else
    if ib x1 1423 then
      if ib x1 1423 then
      lt (wset w 3 x1.toNatClampNeg (w 1 x1.toNatClampNeg)) fun w3 =>
        (m_X8_hold_L2 n) (x1 + (nI 1)) w3
      else none
    else none
def m_X8_hold (w : Wd) : Option (Wd) :=
  m_X8_hold_L2 FU (nI 0) w
def m_X8_ends_L52 (x1 : Int32) (kx86 : Wd → Option (Int32 × Wd)) : Nat → Int32 → Wd → Option (Int32 × Wd)
  | 0, _, _ => none
  | n + 1, x2, w =>
    if (nI 1423) ≤ x2 then
      kx86 w
    else
    if ib x2 1423 then
      if ib (((nI 1423) * (w 0 3)) + x2) 8538 then
      lt (wset w 2 (((nI 1423) * (w 0 3)) + x2).toNatClampNeg (w 3 x2.toNatClampNeg)) fun w3 =>
        (m_X8_ends_L52 x1 kx86 n) (x2 + (nI 1)) w3
      else none
    else none
def m_X8_ends_j50 (x1 : Int32) (w : Wd) : Option (Int32 × Wd) :=
m_X8_ends_L52 x1 (fun w1 =>
  lt (wset w1 0 3 ((w1 0 3) + (nI 1))) fun w2 =>
  some (x1, w2)) FU (nI 0) w
def m_X8_ends_L11 (x1 : Int32) (kx40 : Wd → Option (Int32 × Wd)) : Nat → Int32 → Wd → Option (Int32 × Wd)
  | 0, _, _ => none
  | n + 1, x2, w =>
    if (nI 7115) ≤ x2 then
      kx40 w
    else
    if ib (x2 + (nI 1423)) 8538 then
      if ib x2 8538 then
      lt (wset w 2 x2.toNatClampNeg (w 2 (x2 + (nI 1423)).toNatClampNeg)) fun w3 =>
        (m_X8_ends_L11 x1 kx40 n) (x2 + (nI 1)) w3
      else none
    else none
def m_X8_ends (x1 : Int32) (w : Wd) : Option (Int32 × Wd) :=
  if ¬ (w 0 3) = (nI 6) then
    m_X8_ends_j50 x1 w
  else
  m_X8_ends_L11 x1 (fun w1 =>
    lt (wset w1 0 3 ((w1 0 3) - (nI 1))) fun w2 =>
    m_X8_ends_j50 x1 w2) FU (nI 0) w
def m_X8_closes (x1 : Int32) (w : Wd) : Option (Int32 × Wd) :=
  if 0 ≤ x1 then
    (m_X8_ends x1 w).bind fun o1 =>
    some (o1.1, o1.2)
  else
  some (x1, w)
def m_X8_isProxy (x1 : Int32) (w : Wd) : Option (Int32) :=
  if ib (nI 0) 1423 then
    (m_X8_in x1 (nI 0) ((w 1 (nI 0).toNatClampNeg) - (nI 1))).bind fun o2 =>
    some (o2 &&& 1)
  else none
def m_X8_isChild (x1 : Int32) (w : Wd) : Option (Int32) :=
  if ib (nI 0) 1423 then
    (m_X8_in x1 (nI 1) ((w 1 (nI 0).toNatClampNeg) - (nI 1))).bind fun o2 =>
    some (o2 &&& 1)
  else none
def m_X8_isOrigin (x0 : Int32) : Option (Int32) :=
  (m_X8_in x0 (nI 0) (nI 3)).bind fun o1 =>
  some (o1 &&& 1)
def m_X8_isUpdate (x1 : Int32) (x2 : Int32) (w : Wd) : Option (Int32) :=
  (m_X8_isOrigin x1).bind fun o1 =>
  if o1 = 0 then
    some (nI 0)
  else
  if ib ((nI 19) + x1) 1423 then
    (m_X8_in x2 (nI 1) (w 1 ((nI 19) + x1).toNatClampNeg)).bind fun o3 =>
    if o3 = 0 then
      some (nI 0)
    else
    some (nI 1)
  else none
def m_X8_causeOf (x1 : Int32) (x2 : Int32) (x3 : Int32) (w : Wd) : Option (Int32) :=
  if ib ((((nI 23) + ((nI 96) * x1)) + ((nI 4) * (x2 - (nI 1)))) + x3) 1423 then
    some (w 1 ((((nI 23) + ((nI 96) * x1)) + ((nI 4) * (x2 - (nI 1)))) + x3).toNatClampNeg)
  else none
def m_X8_knows (x1 : Int32) (x2 : Int32) (x3 : Int32) (w : Wd) : Option (Int32) :=
  if ib (((nI 407) + ((nI 4) * x1)) + x2) 1423 then
    if ¬ (((w 1 (((nI 407) + ((nI 4) * x1)) + x2).toNatClampNeg) >>> (x3 &&& 31)) &&& (nI 1)) = (nI 1) then
      some (nI 0)
    else
    some (nI 1)
  else none
def m_X8_addProxy (x1 : Int32) (w : Wd) : Option (Int32 × Wd) :=
  (m_X8_isProxy x1 w).bind fun o1 =>
  if ¬ o1 = 0 then
    if ib (nI 0) 1423 then
      if ¬ (w 1 (nI 0).toNatClampNeg) = (nI 8) then
        (m_X8_hold w).bind fun o3 =>
        if ib (nI 0) 1423 then
          lt ((o3 1 (nI 0).toNatClampNeg)) fun x2_5 =>
          if ib ((nI 7) + x2_5) 1423 then
          lt (wset o3 1 ((nI 7) + x2_5).toNatClampNeg x1) fun w7 =>
            if ib (nI 0) 1423 then
              if ib (nI 0) 1423 then
              lt (wset w7 1 (nI 0).toNatClampNeg ((w7 1 (nI 0).toNatClampNeg) + (nI 1))) fun w10 =>
                (m_X8_ends x2_5 w10).bind fun o11 =>
                some (o11.1, o11.2)
              else none
            else none
          else none
        else none
      else
      some ((-3 : Int32), w)
    else none
  else
  some ((-1 : Int32), w)
def m_X8_setHome (x1 : Int32) (x2 : Int32) (w : Wd) : Option (Int32 × Wd) :=
  (m_X8_isOrigin x1).bind fun o1 =>
  if o1 = 0 then
    some ((-1 : Int32), w)
  else
  (m_X8_isProxy x2 w).bind fun o2 =>
  if ¬ o2 = 0 then
    if ib ((nI 19) + x1) 1423 then
      if (w 1 ((nI 19) + x1).toNatClampNeg) ≤ 0 then
        (m_X8_hold w).bind fun o4 =>
        if ib ((nI 15) + x1) 1423 then
          lt ((o4 1 ((nI 15) + x1).toNatClampNeg)) fun x3_6 =>
          if ib ((nI 15) + x1) 1423 then
          lt (wset o4 1 ((nI 15) + x1).toNatClampNeg x2) fun w8 =>
            (m_X8_ends x3_6 w8).bind fun o9 =>
            some (o9.1, o9.2)
          else none
        else none
      else
      some ((-2 : Int32), w)
    else none
  else
  some ((-1 : Int32), w)
def m_X8_setLimits_j76 (s1 : Int32) (w : Wd) : Option (Int32 × Wd) :=
(m_X8_ends s1 w).bind fun o1 =>
some (o1.1, o1.2)
def m_X8_setLimits_j51 (x1 : Int32) (x2 : Int32) (s0 : Int32) (w : Wd) : Option (Int32 × Wd) :=
if ib (nI 1) 1423 then
lt (wset w 1 (nI 1).toNatClampNeg x1) fun w2 =>
  if ib (nI 2) 1423 then
  lt (wset w2 1 (nI 2).toNatClampNeg x2) fun w4 =>
    if s0 = 0 then
      m_X8_setLimits_j76 (nI 0) w4
    else
    m_X8_setLimits_j76 (nI 1) w4
  else none
else none
def m_X8_setLimits_j46 (x1 : Int32) (x2 : Int32) (w : Wd) : Option (Int32 × Wd) :=
m_X8_setLimits_j51 x1 x2 (nI 1) w
def m_X8_setLimits (x1 : Int32) (x2 : Int32) (w : Wd) : Option (Int32 × Wd) :=
  (m_X8_in x1 (nI 0) (nI 8)).bind fun o1 =>
  if o1 = 0 then
    some ((-1 : Int32), w)
  else
  (m_X8_in x2 (nI 1) (nI 12)).bind fun o2 =>
  if ¬ o2 = 0 then
    (m_X8_hold w).bind fun o3 =>
    if ib (nI 1) 1423 then
      if ¬ (o3 1 (nI 1).toNatClampNeg) = x1 then
        m_X8_setLimits_j46 x1 x2 o3
      else
      if ib (nI 2) 1423 then
        if (o3 1 (nI 2).toNatClampNeg) = x2 then
          m_X8_setLimits_j51 x1 x2 (nI 0) o3
        else
        m_X8_setLimits_j46 x1 x2 o3
      else none
    else none
  else
  some ((-1 : Int32), w)
def m_X8_boundOf_j29 (x1 : Int32) (x2 : Int32) (x4 : Int32) (s0 : Int32) (w : Wd) (kc : Int32 → Int32 → Option (Int32)) : Option (Int32) :=
kc s0 (x4 + (nI 1))
def m_X8_boundOf_L5 (x1 : Int32) (x2 : Int32) (w : Wd) : Nat → Int32 → Int32 → Option (Int32)
  | 0, _, _ => none
  | n + 1, x3, x4 =>
    if (nI 24) < x4 then
      some x3
    else
    (m_X8_knows x1 x2 x4 w).bind fun o1 =>
    if o1 = 0 then
      m_X8_boundOf_j29 x1 x2 x4 x3 w (m_X8_boundOf_L5 x1 x2 w n)
    else
    m_X8_boundOf_j29 x1 x2 x4 x4 w (m_X8_boundOf_L5 x1 x2 w n)
def m_X8_boundOf (x1 : Int32) (x2 : Int32) (w : Wd) : Option (Int32) :=
  m_X8_boundOf_L5 x1 x2 w FU (nI 0) (nI 1)
def m_X8_rangesOf_j42 (x1 : Int32) (x2 : Int32) (x4 : Int32) (s0 : Int32) (s1 : Int32) (w : Wd) (kc : Int32 → Int32 → Option (Int32)) : Option (Int32) :=
lt ((s0 + s1)) fun x3_1 =>
kc x3_1 (x4 + (nI 1))
def m_X8_rangesOf_j41 (x1 : Int32) (x2 : Int32) (x4 : Int32) (s0 : Int32) (w : Wd) (kc : Int32 → Int32 → Option (Int32)) : Option (Int32) :=
m_X8_rangesOf_j42 x1 x2 x4 s0 (nI 0) w kc
def m_X8_rangesOf_L5 (x1 : Int32) (x2 : Int32) (w : Wd) : Nat → Int32 → Int32 → Option (Int32)
  | 0, _, _ => none
  | n + 1, x3, x4 =>
    if (nI 24) ≤ x4 then
      some x3
    else
    (m_X8_knows x1 x2 x4 w).bind fun o1 =>
    if ¬ o1 = 0 then
      m_X8_rangesOf_j41 x1 x2 x4 x3 w (m_X8_rangesOf_L5 x1 x2 w n)
    else
    (m_X8_knows x1 x2 (x4 + (nI 1)) w).bind fun o2 =>
    if o2 = 0 then
      m_X8_rangesOf_j41 x1 x2 x4 x3 w (m_X8_rangesOf_L5 x1 x2 w n)
    else
    m_X8_rangesOf_j42 x1 x2 x4 x3 (nI 1) w (m_X8_rangesOf_L5 x1 x2 w n)
def m_X8_rangesOf (x1 : Int32) (x2 : Int32) (w : Wd) : Option (Int32) :=
  m_X8_rangesOf_L5 x1 x2 w FU (nI 0) (nI 1)
def m_X8_allRanges_L4 (x1 : Int32) (w : Wd) : Nat → Int32 → Int32 → Option (Int32)
  | 0, _, _ => none
  | n + 1, x2, x3 =>
    if (nI 4) ≤ x3 then
      some x2
    else
    (m_X8_rangesOf x1 x3 w).bind fun o1 =>
    lt ((x2 + o1)) fun x2_2 =>
    (m_X8_allRanges_L4 x1 w n) x2_2 (x3 + (nI 1))
def m_X8_allRanges (x1 : Int32) (w : Wd) : Option (Int32) :=
  m_X8_allRanges_L4 x1 w FU (nI 0) (nI 0)
def m_X8_knownMany_j29 (x1 : Int32) (x2 : Int32) (x4 : Int32) (s0 : Int32) (s1 : Int32) (w : Wd) (kc : Int32 → Int32 → Option (Int32)) : Option (Int32) :=
lt ((s0 + s1)) fun x3_1 =>
kc x3_1 (x4 + (nI 1))
def m_X8_knownMany_L5 (x1 : Int32) (x2 : Int32) (w : Wd) : Nat → Int32 → Int32 → Option (Int32)
  | 0, _, _ => none
  | n + 1, x3, x4 =>
    if (nI 24) < x4 then
      some x3
    else
    (m_X8_knows x1 x2 x4 w).bind fun o1 =>
    if o1 = 0 then
      m_X8_knownMany_j29 x1 x2 x4 x3 (nI 0) w (m_X8_knownMany_L5 x1 x2 w n)
    else
    m_X8_knownMany_j29 x1 x2 x4 x3 (nI 1) w (m_X8_knownMany_L5 x1 x2 w n)
def m_X8_knownMany (x1 : Int32) (x2 : Int32) (w : Wd) : Option (Int32) :=
  m_X8_knownMany_L5 x1 x2 w FU (nI 0) (nI 1)
def m_X8_isCaused_j38 (x1 : Int32) (x2 : Int32) (x4 : Int32) (s0 : Int32) (w : Wd) (kc : Int32 → Int32 → Option (Int32)) : Option (Int32) :=
kc s0 (x4 + (nI 1))
def m_X8_isCaused_j37 (x1 : Int32) (x2 : Int32) (x4 : Int32) (w : Wd) (kc : Int32 → Int32 → Option (Int32)) : Option (Int32) :=
m_X8_isCaused_j38 x1 x2 x4 (nI 0) w kc
def m_X8_isCaused_L5 (x1 : Int32) (x2 : Int32) (w : Wd) : Nat → Int32 → Int32 → Option (Int32)
  | 0, _, _ => none
  | n + 1, x3, x4 =>
    if (nI 4) ≤ x4 then
      some (x3 &&& 1)
    else
    if x3 = 0 then
      m_X8_isCaused_j37 x1 x2 x4 w (m_X8_isCaused_L5 x1 x2 w n)
    else
    (m_X8_causeOf x1 x2 x4 w).bind fun o1 =>
    if ib x4 4 then
      if (w 5 x4.toNatClampNeg) < o1 then
        m_X8_isCaused_j37 x1 x2 x4 w (m_X8_isCaused_L5 x1 x2 w n)
      else
      m_X8_isCaused_j38 x1 x2 x4 (nI 1) w (m_X8_isCaused_L5 x1 x2 w n)
    else none
def m_X8_isCaused (x1 : Int32) (x2 : Int32) (w : Wd) : Option (Int32) :=
  m_X8_isCaused_L5 x1 x2 w FU (nI 1) (nI 0)
def m_X8_serves_L14 (x1 : Int32) (x2 : Int32) (kx55 : Wd → Option (Wd)) : Nat → Wd → Option (Wd)
  | 0, _ => none
  | n + 1, w =>
    if ib x2 4 then
      if (nI 24) ≤ (w 5 x2.toNatClampNeg) then
        kx55 w
      else
      if ib x2 4 then
        (m_X8_knows x1 x2 ((w 5 x2.toNatClampNeg) + (nI 1)) w).bind fun o3 =>
        if o3 = 0 then
          kx55 w
        else
        if ib x2 4 then
          if ib x2 4 then
          lt (wset w 5 x2.toNatClampNeg ((w 5 x2.toNatClampNeg) + (nI 1))) fun w6 =>
            (m_X8_serves_L14 x1 x2 kx55 n) w6
          else none
        else none
      else none
    else none
def m_X8_serves_j55 (x1 : Int32) (x2 : Int32) (w : Wd) (kc : Int32 → Wd → Option (Wd)) (kx61 : Wd → Option (Wd)) : Option (Wd) :=
kc (x2 + (nI 1)) w
def m_X8_serves_L2 (x1 : Int32) (kx61 : Wd → Option (Wd)) : Nat → Int32 → Wd → Option (Wd)
  | 0, _, _ => none
  | n + 1, x2, w =>
    if (nI 4) ≤ x2 then
      kx61 w
    else
    if ib x2 4 then
    lt (wset w 5 x2.toNatClampNeg (nI 0)) fun w2 =>
      m_X8_serves_L14 x1 x2 (fun w3 =>
        m_X8_serves_j55 x1 x2 w3 (m_X8_serves_L2 x1 kx61 n) kx61) FU w2
    else none
def m_X8_serves_L79 (x2 : Int32) (x3 : Int32) (kx106 : Int32 → Wd → Option (Wd)) : Nat → Int32 → Wd → Option (Wd)
  | 0, _, _ => none
  | n + 1, x4, w =>
    if ib x3 4 then
      if (w 5 x3.toNatClampNeg) < x4 then
        kx106 x4 w
      else
      (m_X8_isCaused x3 x4 w).bind fun o2 =>
      if o2 = 0 then
        kx106 x4 w
      else
      (m_X8_serves_L79 x2 x3 kx106 n) (x4 + (nI 1)) w
    else none
def m_X8_serves_j126 (x3 : Int32) (x4 : Int32) (s0 : Int32) (w : Wd) (kc : Int32 → Int32 → Wd → Option (Wd)) (kx143 : Int32 → Wd → Option (Wd)) : Option (Wd) :=
if ib x3 4 then
lt (wset w 5 x3.toNatClampNeg (x4 - (nI 1))) fun w2 =>
  kc s0 (x3 + (nI 1)) w2
else none
def m_X8_serves_j121 (x3 : Int32) (x4 : Int32) (w : Wd) (kc : Int32 → Int32 → Wd → Option (Wd)) (kx143 : Int32 → Wd → Option (Wd)) : Option (Wd) :=
m_X8_serves_j126 x3 x4 (nI 1) w kc kx143
def m_X8_serves_j106 (x2 : Int32) (x3 : Int32) (x4 : Int32) (w : Wd) (kc : Int32 → Int32 → Wd → Option (Wd)) (kx143 : Int32 → Wd → Option (Wd)) : Option (Wd) :=
if ¬ x2 = 0 then
  m_X8_serves_j121 x3 x4 w kc kx143
else
if ib x3 4 then
  if (w 5 x3.toNatClampNeg) < x4 then
    m_X8_serves_j126 x3 x4 (nI 0) w kc kx143
  else
  m_X8_serves_j121 x3 x4 w kc kx143
else none
def m_X8_serves_L71 (kx143 : Int32 → Wd → Option (Wd)) : Nat → Int32 → Int32 → Wd → Option (Wd)
  | 0, _, _, _ => none
  | n + 1, x2, x3, w =>
    if (nI 4) ≤ x3 then
      kx143 x2 w
    else
    m_X8_serves_L79 x2 x3 (fun x4_1 w2 =>
      m_X8_serves_j106 x2 x3 x4_1 w2 (m_X8_serves_L71 kx143 n) kx143) FU (nI 1) w
def m_X8_serves_L63 : Nat → Int32 → Wd → Option (Wd)
  | 0, _, _ => none
  | n + 1, x2, w =>
    if x2 = 0 then
      some w
    else
    m_X8_serves_L71 (fun x2_1 w2 =>
      (m_X8_serves_L63 n) x2_1 w2) FU (nI 0) (nI 0) w
def m_X8_serves (x1 : Int32) (w : Wd) : Option (Wd) :=
  m_X8_serves_L2 x1 (fun w1 =>
    m_X8_serves_L63 FU (nI 1) w1) FU (nI 0) w
def m_X8_depth_L4 (w : Wd) : Nat → Int32 → Int32 → Option (Int32)
  | 0, _, _ => none
  | n + 1, x2, x3 =>
    if x3 ≤ 0 then
      some x2
    else
    if ib ((nI 7) + x3) 1423 then
      lt ((w 1 ((nI 7) + x3).toNatClampNeg)) fun x3_2 =>
      (m_X8_depth_L4 w n) (x2 + (nI 1)) x3_2
    else none
def m_X8_depth (x1 : Int32) (w : Wd) : Option (Int32) :=
  m_X8_depth_L4 w FU (nI 0) x1
def m_X8_children_j33 (x1 : Int32) (x3 : Int32) (s0 : Int32) (s1 : Int32) (w : Wd) (kc : Int32 → Int32 → Option (Int32)) : Option (Int32) :=
lt ((s0 + s1)) fun x2_1 =>
kc x2_1 (x3 + (nI 1))
def m_X8_children_L4 (x1 : Int32) (w : Wd) : Nat → Int32 → Int32 → Option (Int32)
  | 0, _, _ => none
  | n + 1, x2, x3 =>
    if ib (nI 0) 1423 then
      if (w 1 (nI 0).toNatClampNeg) ≤ x3 then
        some x2
      else
      if ib ((nI 7) + x3) 1423 then
        if ¬ (w 1 ((nI 7) + x3).toNatClampNeg) = x1 then
          m_X8_children_j33 x1 x3 x2 (nI 0) w (m_X8_children_L4 x1 w n)
        else
        m_X8_children_j33 x1 x3 x2 (nI 1) w (m_X8_children_L4 x1 w n)
      else none
    else none
def m_X8_children (x1 : Int32) (w : Wd) : Option (Int32) :=
  m_X8_children_L4 x1 w FU (nI 0) (nI 1)
def m_X8_sumOf_j86 (x1 : Int32) (x2 : Int32) (x4 : Int32) (s0 : Int32) (s1 : Int32) (w : Wd) (kc : Int32 → Int32 → Wd → Option (Int32 × Wd)) : Option (Int32 × Wd) :=
lt ((s0 + s1)) fun x3_1 =>
kc x3_1 (x4 + (nI 1)) w
def m_X8_sumOf_j72 (x1 : Int32) (x2 : Int32) (x4 : Int32) (s0 : Int32) (s1 : Int32) (s2 : Int32) (w : Wd) (kc : Int32 → Int32 → Wd → Option (Int32 × Wd)) : Option (Int32 × Wd) :=
m_X8_sumOf_j86 x1 x2 x4 s0 (s1 + s2) w kc
def m_X8_sumOf_L10 (x1 : Int32) (x2 : Int32) : Nat → Int32 → Int32 → Wd → Option (Int32 × Wd)
  | 0, _, _, _ => none
  | n + 1, x3, x4, w =>
    if (nI 4) ≤ x4 then
      some (x3, w)
    else
    (m_X8_knownMany x1 x4 w).bind fun o1 =>
    if ¬ x2 = 0 then
      if ¬ x2 = (nI 1) then
        if ¬ x2 = (nI 2) then
          (m_X8_boundOf x1 x4 w).bind fun o2 =>
          m_X8_sumOf_j86 x1 x2 x4 x3 (o2 - o1) w (m_X8_sumOf_L10 x1 x2 n)
        else
        (m_X8_rangesOf x1 x4 w).bind fun o3 =>
        if o1 ≤ 0 then
          m_X8_sumOf_j72 x1 x2 x4 x3 o3 (nI 0) w (m_X8_sumOf_L10 x1 x2 n)
        else
        m_X8_sumOf_j72 x1 x2 x4 x3 o3 (nI 1) w (m_X8_sumOf_L10 x1 x2 n)
      else
      if ib x4 4 then
        m_X8_sumOf_j86 x1 x2 x4 x3 (w 5 x4.toNatClampNeg) w (m_X8_sumOf_L10 x1 x2 n)
      else none
    else
    m_X8_sumOf_j86 x1 x2 x4 x3 o1 w (m_X8_sumOf_L10 x1 x2 n)
def m_X8_sumOf (x1 : Int32) (x2 : Int32) (w : Wd) : Option (Int32 × Wd) :=
  (m_X8_serves x1 w).bind fun o1 =>
  m_X8_sumOf_L10 x1 x2 FU (nI 0) (nI 0) o1
def m_X8_proxy (x1 : Int32) (x2 : Int32) (w : Wd) : Option (Int32 × Wd) :=
  (m_X8_isProxy x1 w).bind fun o1 =>
  if ¬ o1 = 0 then
    if x2 = (nI 0) then
      if ib ((nI 7) + x1) 1423 then
        some ((w 1 ((nI 7) + x1).toNatClampNeg), w)
      else none
    else
    if x2 = (nI 1) then
      (m_X8_depth x1 w).bind fun o3 =>
      some (o3, w)
    else
    if x2 = (nI 2) then
      (m_X8_children x1 w).bind fun o4 =>
      some (o4, w)
    else
    if x2 = (nI 3) then
      (m_X8_sumOf x1 (nI 0) w).bind fun o5 =>
      some (o5.1, o5.2)
    else
    if x2 = (nI 4) then
      (m_X8_sumOf x1 (nI 1) w).bind fun o6 =>
      some (o6.1, o6.2)
    else
    if x2 = (nI 5) then
      if ib ((nI 439) + x1) 1423 then
        some ((w 1 ((nI 439) + x1).toNatClampNeg), w)
      else none
    else
    if x2 = (nI 6) then
      (m_X8_sumOf x1 (nI 2) w).bind fun o8 =>
      some (o8.1, o8.2)
    else
    if x2 = (nI 7) then
      (m_X8_sumOf x1 (nI 3) w).bind fun o9 =>
      some (o9.1, o9.2)
    else
    some ((-1 : Int32), w)
  else
  some ((-1 : Int32), w)
def m_X8_count (x1 : Int32) (w : Wd) : Option (Int32) :=
  if x1 = (nI 0) then
    if ib (nI 0) 1423 then
      some (w 1 (nI 0).toNatClampNeg)
    else none
  else
  if x1 = (nI 1) then
    if ib (nI 1) 1423 then
      some (w 1 (nI 1).toNatClampNeg)
    else none
  else
  if x1 = (nI 2) then
    if ib (nI 2) 1423 then
      some (w 1 (nI 2).toNatClampNeg)
    else none
  else
  if x1 = (nI 3) then
    if ib (nI 19) 1423 then
      if ib (nI 20) 1423 then
        if ib (nI 21) 1423 then
          if ib (nI 22) 1423 then
            some ((((w 1 (nI 19).toNatClampNeg) + (w 1 (nI 20).toNatClampNeg)) + (w 1 (nI 21).toNatClampNeg)) + (w 1 (nI 22).toNatClampNeg))
          else none
        else none
      else none
    else none
  else
  if x1 = (nI 4) then
    if ib (nI 3) 1423 then
      some (w 1 (nI 3).toNatClampNeg)
    else none
  else
  if x1 = (nI 5) then
    if ib (nI 4) 1423 then
      some (w 1 (nI 4).toNatClampNeg)
    else none
  else
  if x1 = (nI 6) then
    if ib (nI 5) 1423 then
      some (w 1 (nI 5).toNatClampNeg)
    else none
  else
  if x1 = (nI 7) then
    if ib (nI 6) 1423 then
      some (w 1 (nI 6).toNatClampNeg)
    else none
  else
  if x1 = (nI 8) then
    some (w 0 3)
  else
  some (-1 : Int32)
def m_X8_keptPlace_j47 (x1 : Int32) (x2 : Int32) (x4 : Int32) (s0 : Int32) (w : Wd) (kc : Int32 → Int32 → Option (Int32)) : Option (Int32) :=
kc s0 (x4 + (nI 1))
def m_X8_keptPlace_L6 (x1 : Int32) (x2 : Int32) (w : Wd) : Nat → Int32 → Int32 → Option (Int32)
  | 0, _, _ => none
  | n + 1, x3, x4 =>
    if ib ((nI 439) + x1) 1423 then
      if (w 1 ((nI 439) + x1).toNatClampNeg) ≤ x4 then
        some x3
      else
      if ib (((nI 447) + ((nI 96) * x1)) + x4) 1423 then
        if ¬ (w 1 (((nI 447) + ((nI 96) * x1)) + x4).toNatClampNeg) = x2 then
          m_X8_keptPlace_j47 x1 x2 x4 x3 w (m_X8_keptPlace_L6 x1 x2 w n)
        else
        m_X8_keptPlace_j47 x1 x2 x4 x4 w (m_X8_keptPlace_L6 x1 x2 w n)
      else none
    else none
def m_X8_keptPlace (x1 : Int32) (x2 : Int32) (w : Wd) : Option (Int32) :=
  m_X8_keptPlace_L6 x1 x2 w FU (-9 : Int32) (nI 0)
def m_X8_keeps_j131 (x1 : Int32) (x4 : Int32) (s0 : Int32) (w : Wd) (kc : Int32 → Int32 → Wd → Option (Wd)) (kx138 : Int32 → Wd → Option (Wd)) : Option (Wd) :=
kc s0 (x4 + (-1 : Int32)) w
def m_X8_keeps_L84 (x1 : Int32) (kx138 : Int32 → Wd → Option (Wd)) : Nat → Int32 → Int32 → Wd → Option (Wd)
  | 0, _, _, _ => none
  | n + 1, x3, x4, w =>
    if x4 < 0 then
      kx138 x3 w
    else
    if ib (((nI 447) + ((nI 96) * x1)) + x4) 1423 then
      lt ((w 1 (((nI 447) + ((nI 96) * x1)) + x4).toNatClampNeg)) fun x5_2 =>
      if ib (x5_2 / (nI 100)) 4 then
        if (w 5 (x5_2 / (nI 100)).toNatClampNeg) < (x5_2 - x5_2 / (nI 100) * (nI 100)) then
          m_X8_keeps_j131 x1 x4 x3 w (m_X8_keeps_L84 x1 kx138 n) kx138
        else
        m_X8_keeps_j131 x1 x4 x4 w (m_X8_keeps_L84 x1 kx138 n) kx138
      else none
    else none
def m_X8_keeps_L155 (x1 : Int32) (kx210 : Wd → Option (Wd)) : Nat → Int32 → Wd → Option (Wd)
  | 0, _, _ => none
  | n + 1, x4, w =>
    if ib ((nI 439) + x1) 1423 then
      if (w 1 ((nI 439) + x1).toNatClampNeg) ≤ x4 then
        kx210 w
      else
      if ib ((((nI 447) + ((nI 96) * x1)) + x4) + (nI 1)) 1423 then
        if ib (((nI 447) + ((nI 96) * x1)) + x4) 1423 then
        lt (wset w 1 (((nI 447) + ((nI 96) * x1)) + x4).toNatClampNeg (w 1 ((((nI 447) + ((nI 96) * x1)) + x4) + (nI 1)).toNatClampNeg)) fun w4 =>
          (m_X8_keeps_L155 x1 kx210 n) (x4 + (nI 1)) w4
        else none
      else none
    else none
def m_X8_keeps (x1 : Int32) (x2 : Int32) (w : Wd) : Option (Wd) :=
  if ib ((nI 439) + x1) 1423 then
    if ib (((nI 447) + ((nI 96) * x1)) + (w 1 ((nI 439) + x1).toNatClampNeg)) 1423 then
    lt (wset w 1 (((nI 447) + ((nI 96) * x1)) + (w 1 ((nI 439) + x1).toNatClampNeg)).toNatClampNeg x2) fun w3 =>
      if ib ((nI 439) + x1) 1423 then
        if ib ((nI 439) + x1) 1423 then
        lt (wset w3 1 ((nI 439) + x1).toNatClampNeg ((w3 1 ((nI 439) + x1).toNatClampNeg) + (nI 1))) fun w6 =>
          if x1 = 0 then
            some w6
          else
          if ib ((nI 439) + x1) 1423 then
            if ib (nI 2) 1423 then
              if (w6 1 (nI 2).toNatClampNeg) < (w6 1 ((nI 439) + x1).toNatClampNeg) then
                (m_X8_serves x1 w6).bind fun o9 =>
                if ib ((nI 439) + x1) 1423 then
                  lt (((o9 1 ((nI 439) + x1).toNatClampNeg) - (nI 1))) fun x4_11 =>
                  m_X8_keeps_L84 x1 (fun x3_12 w13 =>
                    if ib ((nI 439) + x1) 1423 then
                      if ib ((nI 439) + x1) 1423 then
                      lt (wset w13 1 ((nI 439) + x1).toNatClampNeg ((w13 1 ((nI 439) + x1).toNatClampNeg) - (nI 1))) fun w16 =>
                        m_X8_keeps_L155 x1 (fun w17 =>
                          if ib (nI 6) 1423 then
                            if ib (nI 6) 1423 then
                            lt (wset w17 1 (nI 6).toNatClampNeg ((w17 1 (nI 6).toNatClampNeg) + (nI 1))) fun w20 =>
                              some w20
                            else none
                          else none) FU x3_12 w16
                      else none
                    else none) FU (nI 0) x4_11 o9
                else none
              else
              some w6
            else none
          else none
        else none
      else none
    else none
  else none
def m_X8_queueOf (x0 : Int32) (x1 : Int32) : Option (Int32) :=
  some (((nI 1215) + ((nI 26) * x0)) + ((nI 13) * x1))
def m_X8_puts (x1 : Int32) (x2 : Int32) (x3 : Int32) (w : Wd) : Option (Wd) :=
  (m_X8_queueOf x1 x2).bind fun o1 =>
  if ib o1 1423 then
    if ¬ (w 1 o1.toNatClampNeg) = (nI 12) then
      if ib o1 1423 then
        if ib o1 1423 then
        lt (wset w 1 o1.toNatClampNeg ((w 1 o1.toNatClampNeg) + (nI 1))) fun w5 =>
          if ib o1 1423 then
            if ib (o1 + (w5 1 o1.toNatClampNeg)) 1423 then
            lt (wset w5 1 (o1 + (w5 1 o1.toNatClampNeg)).toNatClampNeg x3) fun w8 =>
              some w8
            else none
          else none
        else none
      else none
    else
    if ib (nI 4) 1423 then
      if ib (nI 4) 1423 then
      lt (wset w 1 (nI 4).toNatClampNeg ((w 1 (nI 4).toNatClampNeg) + (nI 1))) fun w11 =>
        some w11
      else none
    else none
  else none
def m_X8_learns_j98 (x1 : Int32) (x2 : Int32) (x3 : Int32) (x4 : Int32) (w : Wd) (kc : Int32 → Wd → Option (Wd)) : Option (Wd) :=
kc (x4 + (nI 1)) w
def m_X8_learns_L59 (x1 : Int32) (x2 : Int32) (x3 : Int32) : Nat → Int32 → Wd → Option (Wd)
  | 0, _, _ => none
  | n + 1, x4, w =>
    if ib (nI 0) 1423 then
      if (w 1 (nI 0).toNatClampNeg) ≤ x4 then
        some w
      else
      if ib ((nI 7) + x4) 1423 then
        if ¬ (w 1 ((nI 7) + x4).toNatClampNeg) = x1 then
          m_X8_learns_j98 x1 x2 x3 x4 w (m_X8_learns_L59 x1 x2 x3 n)
        else
        if x4 = x3 then
          m_X8_learns_j98 x1 x2 x3 x4 w (m_X8_learns_L59 x1 x2 x3 n)
        else
        (m_X8_puts x4 (nI 1) x2 w).bind fun o3 =>
        m_X8_learns_j98 x1 x2 x3 x4 o3 (m_X8_learns_L59 x1 x2 x3 n)
      else none
    else none
def m_X8_learns_j56 (x1 : Int32) (x2 : Int32) (x3 : Int32) (w : Wd) : Option (Wd) :=
m_X8_learns_L59 x1 x2 x3 FU (nI 1) w
def m_X8_learns (x1 : Int32) (x2 : Int32) (x3 : Int32) (w : Wd) : Option (Wd) :=
  if ib (((nI 407) + ((nI 4) * x1)) + (x2 / (nI 100))) 1423 then
    if ib (((nI 407) + ((nI 4) * x1)) + (x2 / (nI 100))) 1423 then
    lt (wset w 1 (((nI 407) + ((nI 4) * x1)) + (x2 / (nI 100))).toNatClampNeg ((w 1 (((nI 407) + ((nI 4) * x1)) + (x2 / (nI 100))).toNatClampNeg) ||| ((nI 1) <<< ((x2 - x2 / (nI 100) * (nI 100)) &&& 31)))) fun w3 =>
      (m_X8_keeps x1 x2 w3).bind fun o4 =>
      if x1 ≤ 0 then
        m_X8_learns_j56 x1 x2 x3 o4
      else
      if ib ((nI 7) + x1) 1423 then
        if x3 = (o4 1 ((nI 7) + x1).toNatClampNeg) then
          m_X8_learns_j56 x1 x2 x3 o4
        else
        (m_X8_puts x1 (nI 0) x2 o4).bind fun o6 =>
        m_X8_learns_j56 x1 x2 x3 o6
      else none
    else none
  else none
def m_X8_arrives_j88 (x1 : Int32) (x2 : Int32) (x3 : Int32) (x4 : Int32) (x6 : Int32) (s0 : Int32) (w : Wd) : Option (Int32 × Wd) :=
if ib (((nI 407) + ((nI 4) * x1)) + x4) 1423 then
lt (wset w 1 (((nI 407) + ((nI 4) * x1)) + x4).toNatClampNeg x6) fun w2 =>
  if s0 = 0 then
    (m_X8_learns x1 x2 x3 w2).bind fun o3 =>
    some ((nI 1), o3)
  else
  if ib (nI 3) 1423 then
    if ib (nI 3) 1423 then
    lt (wset w2 1 (nI 3).toNatClampNeg ((w2 1 (nI 3).toNatClampNeg) + (nI 1))) fun w6 =>
      some ((-1 : Int32), w6)
    else none
  else none
else none
def m_X8_arrives_j87 (x1 : Int32) (x2 : Int32) (x3 : Int32) (x4 : Int32) (x6 : Int32) (w : Wd) : Option (Int32 × Wd) :=
m_X8_arrives_j88 x1 x2 x3 x4 x6 (nI 0) w
def m_X8_arrives (x1 : Int32) (x2 : Int32) (x3 : Int32) (w : Wd) : Option (Int32 × Wd) :=
  lt ((x2 / (nI 100))) fun x4_1 =>
  lt ((x2 - x2 / (nI 100) * (nI 100))) fun x5_2 =>
  (m_X8_knows x1 x4_1 x5_2 w).bind fun o3 =>
  if o3 = 0 then
    if ib (((nI 407) + ((nI 4) * x1)) + x4_1) 1423 then
      lt ((w 1 (((nI 407) + ((nI 4) * x1)) + x4_1).toNatClampNeg)) fun x6_5 =>
      if ib (((nI 407) + ((nI 4) * x1)) + x4_1) 1423 then
        if ib (((nI 407) + ((nI 4) * x1)) + x4_1) 1423 then
        lt (wset w 1 (((nI 407) + ((nI 4) * x1)) + x4_1).toNatClampNeg ((w 1 (((nI 407) + ((nI 4) * x1)) + x4_1).toNatClampNeg) ||| ((nI 1) <<< (x5_2 &&& 31)))) fun w8 =>
          if x1 ≤ 0 then
            m_X8_arrives_j87 x1 x2 x3 x4_1 x6_5 w8
          else
          (m_X8_allRanges x1 w8).bind fun o9 =>
          if ib (nI 1) 1423 then
            if o9 ≤ (w8 1 (nI 1).toNatClampNeg) then
              m_X8_arrives_j87 x1 x2 x3 x4_1 x6_5 w8
            else
            m_X8_arrives_j88 x1 x2 x3 x4_1 x6_5 (nI 1) w8
          else none
        else none
      else none
    else none
  else
  some ((nI 0), w)
def m_X8_takes_L29 (x3 : Int32) (x4 : Int32) : Nat → Int32 → Wd → Option (Int32 × Wd)
  | 0, _, _ => none
  | n + 1, x5, w =>
    if ib x3 1423 then
      if (w 1 x3.toNatClampNeg) < x5 then
        some (x4, w)
      else
      if ib ((x3 + x5) + (nI 1)) 1423 then
        if ib (x3 + x5) 1423 then
        lt (wset w 1 (x3 + x5).toNatClampNeg (w 1 ((x3 + x5) + (nI 1)).toNatClampNeg)) fun w4 =>
          (m_X8_takes_L29 x3 x4 n) (x5 + (nI 1)) w4
        else none
      else none
    else none
def m_X8_takes (x1 : Int32) (x2 : Int32) (w : Wd) : Option (Int32 × Wd) :=
  (m_X8_queueOf x1 x2).bind fun o1 =>
  if ib (o1 + (nI 1)) 1423 then
    lt ((w 1 (o1 + (nI 1)).toNatClampNeg)) fun x4_3 =>
    if ib o1 1423 then
      if ib o1 1423 then
      lt (wset w 1 o1.toNatClampNeg ((w 1 o1.toNatClampNeg) - (nI 1))) fun w6 =>
        m_X8_takes_L29 o1 x4_3 FU (nI 1) w6
      else none
    else none
  else none
def m_X8_makes_j101 (x1 : Int32) (x2 : Int32) (x3 : Int32) (x4 : Int32) (s1 : Int32) (s2 : Int32) (w : Wd) (kc : Int32 → Wd → Option (Int32 × Wd)) (kx108 : Wd → Option (Int32 × Wd)) : Option (Int32 × Wd) :=
if ib s1 1423 then
lt (wset w 1 s1.toNatClampNeg s2) fun w2 =>
  kc (x4 + (nI 1)) w2
else none
def m_X8_makes_L56 (x1 : Int32) (x2 : Int32) (x3 : Int32) (kx108 : Wd → Option (Int32 × Wd)) : Nat → Int32 → Wd → Option (Int32 × Wd)
  | 0, _, _ => none
  | n + 1, x4, w =>
    if (nI 4) ≤ x4 then
      kx108 w
    else
    if ¬ x4 = x1 then
      if ib x4 4 then
        m_X8_makes_j101 x1 x2 x3 x4 ((((nI 23) + ((nI 96) * x1)) + ((nI 4) * (x3 - (nI 1)))) + x4) (w 5 x4.toNatClampNeg) w (m_X8_makes_L56 x1 x2 x3 kx108 n) kx108
      else none
    else
    m_X8_makes_j101 x1 x2 x3 x4 ((((nI 23) + ((nI 96) * x1)) + ((nI 4) * (x3 - (nI 1)))) + x4) (x3 - (nI 1)) w (m_X8_makes_L56 x1 x2 x3 kx108 n) kx108
def m_X8_makes (x1 : Int32) (w : Wd) : Option (Int32 × Wd) :=
  (m_X8_isOrigin x1).bind fun o1 =>
  if ¬ o1 = 0 then
    if ib ((nI 19) + x1) 1423 then
      if ¬ (w 1 ((nI 19) + x1).toNatClampNeg) = (nI 24) then
        if ib ((nI 15) + x1) 1423 then
          lt ((w 1 ((nI 15) + x1).toNatClampNeg)) fun x2_4 =>
          (m_X8_serves x2_4 w).bind fun o5 =>
          if ib ((nI 19) + x1) 1423 then
            lt (((o5 1 ((nI 19) + x1).toNatClampNeg) + (nI 1))) fun x3_7 =>
            m_X8_makes_L56 x1 x2_4 x3_7 (fun w8 =>
              if ib ((nI 19) + x1) 1423 then
              lt (wset w8 1 ((nI 19) + x1).toNatClampNeg x3_7) fun w10 =>
                (m_X8_learns x2_4 (((nI 100) * x1) + x3_7) (-9 : Int32) w10).bind fun o11 =>
                some (x3_7, o11)
              else none) FU (nI 0) o5
          else none
        else none
      else
      some ((-3 : Int32), w)
    else none
  else
  some ((-1 : Int32), w)
def m_X8_isQueue (x1 : Int32) (x2 : Int32) (w : Wd) : Option (Int32) :=
  (m_X8_isChild x1 w).bind fun o1 =>
  if o1 = 0 then
    some (nI 0)
  else
  (m_X8_in x2 (nI 0) (nI 1)).bind fun o2 =>
  if o2 = 0 then
    some (nI 0)
  else
  some (nI 1)
def m_X8_delivers_j119 (x1 : Int32) (x2 : Int32) (x3 : Int32) (x4 : Int32) (x5 : Int32) (x7 : Int32) (s0 : Int32) (s1 : Int32) (w : Wd) (kc : Int32 → Int32 → Wd → Option (Int32 × Wd)) : Option (Int32 × Wd) :=
lt ((s0 + s1)) fun x6_1 =>
kc x6_1 (x7 + (nI 1)) w
def m_X8_delivers_j104 (x1 : Int32) (x2 : Int32) (x3 : Int32) (x4 : Int32) (x5 : Int32) (x6 : Int32) (x7 : Int32) (s0 : Int32) (w : Wd) (kc : Int32 → Int32 → Wd → Option (Int32 × Wd)) : Option (Int32 × Wd) :=
if ¬ s0 = (nI 1) then
  m_X8_delivers_j119 x1 x2 x3 x4 x5 x7 x6 (nI 0) w kc
else
m_X8_delivers_j119 x1 x2 x3 x4 x5 x7 x6 (nI 1) w kc
def m_X8_delivers_L58 (x1 : Int32) (x2 : Int32) (x3 : Int32) (x4 : Int32) (x5 : Int32) : Nat → Int32 → Int32 → Wd → Option (Int32 × Wd)
  | 0, _, _, _ => none
  | n + 1, x6, x7, w =>
    if x3 ≤ x7 then
      some (x6, w)
    else
    if x4 ≤ x7 then
      some (x6, w)
    else
    (m_X8_takes x1 x2 w).bind fun o1 =>
    if ¬ x2 = 0 then
      (m_X8_arrives x1 o1.1 x5 o1.2).bind fun o2 =>
      m_X8_delivers_j104 x1 x2 x3 x4 x5 x6 x7 o2.1 o2.2 (m_X8_delivers_L58 x1 x2 x3 x4 x5 n)
    else
    (m_X8_arrives x5 o1.1 x1 o1.2).bind fun o3 =>
    m_X8_delivers_j104 x1 x2 x3 x4 x5 x6 x7 o3.1 o3.2 (m_X8_delivers_L58 x1 x2 x3 x4 x5 n)
def m_X8_delivers (x1 : Int32) (x2 : Int32) (x3 : Int32) (w : Wd) : Option (Int32 × Wd) :=
  (m_X8_isQueue x1 x2 w).bind fun o1 =>
  if o1 = 0 then
    some ((-1 : Int32), w)
  else
  (m_X8_in x3 (nI 1) (nI 9)).bind fun o2 =>
  if ¬ o2 = 0 then
    (m_X8_queueOf x1 x2).bind fun o3 =>
    if ib o3 1423 then
      lt ((w 1 o3.toNatClampNeg)) fun x4_5 =>
      if ¬ x4_5 = 0 then
        if ib ((nI 7) + x1) 1423 then
          lt ((w 1 ((nI 7) + x1).toNatClampNeg)) fun x5_7 =>
          m_X8_delivers_L58 x1 x2 x3 x4_5 x5_7 FU (nI 0) (nI 0) w
        else none
      else
      some ((-2 : Int32), w)
    else none
  else
  some ((-1 : Int32), w)
def m_X8_loses_j82 (x1 : Int32) (x2 : Int32) (x3 : Int32) (x4 : Int32) (x5 : Int32) (s1 : Int32) (s2 : Int32) (s3 : Int32) (w : Wd) (kc : Int32 → Wd → Option (Int32 × Wd)) : Option (Int32 × Wd) :=
if ib s1 1423 then
lt (wset w 1 s1.toNatClampNeg (s2 + s3)) fun w2 =>
  kc (x5 + (nI 1)) w2
else none
def m_X8_loses_L44 (x1 : Int32) (x2 : Int32) (x3 : Int32) (x4 : Int32) : Nat → Int32 → Wd → Option (Int32 × Wd)
  | 0, _, _ => none
  | n + 1, x5, w =>
    if x3 ≤ x5 then
      some (x5, w)
    else
    if x4 ≤ x5 then
      some (x5, w)
    else
    (m_X8_takes x1 x2 w).bind fun o1 =>
    if ib (nI 5) 1423 then
      if o1.1 ≤ 0 then
        m_X8_loses_j82 x1 x2 x3 x4 x5 (nI 5) (o1.2 1 (nI 5).toNatClampNeg) (nI 0) o1.2 (m_X8_loses_L44 x1 x2 x3 x4 n)
      else
      m_X8_loses_j82 x1 x2 x3 x4 x5 (nI 5) (o1.2 1 (nI 5).toNatClampNeg) (nI 1) o1.2 (m_X8_loses_L44 x1 x2 x3 x4 n)
    else none
def m_X8_loses (x1 : Int32) (x2 : Int32) (x3 : Int32) (w : Wd) : Option (Int32 × Wd) :=
  (m_X8_isQueue x1 x2 w).bind fun o1 =>
  if o1 = 0 then
    some ((-1 : Int32), w)
  else
  (m_X8_in x3 (nI 1) (nI 9)).bind fun o2 =>
  if ¬ o2 = 0 then
    (m_X8_queueOf x1 x2).bind fun o3 =>
    if ib o3 1423 then
      lt ((w 1 o3.toNatClampNeg)) fun x4_5 =>
      if ¬ x4_5 = 0 then
        m_X8_loses_L44 x1 x2 x3 x4_5 FU (nI 0) w
      else
      some ((-2 : Int32), w)
    else none
  else
  some ((-1 : Int32), w)
def m_X8_fetches_j54 (x1 : Int32) (x2 : Int32) (x3 : Int32) (x4 : Int32) (x5 : Int32) (w : Wd) (kc : Int32 → Int32 → Wd → Option (Int32 × Wd)) (kx60 : Int32 → Wd → Option (Int32 × Wd)) : Option (Int32 × Wd) :=
kc x2 (x5 + (nI 1)) w
def m_X8_fetches_L20 (x1 : Int32) (x3 : Int32) (x4 : Int32) (kx60 : Int32 → Wd → Option (Int32 × Wd)) : Nat → Int32 → Int32 → Wd → Option (Int32 × Wd)
  | 0, _, _, _ => none
  | n + 1, x2, x5, w =>
    if x4 ≤ x5 then
      kx60 x2 w
    else
    (m_X8_knows x1 x3 x5 w).bind fun o1 =>
    if ¬ o1 = 0 then
      m_X8_fetches_j54 x1 x2 x3 x4 x5 w (m_X8_fetches_L20 x1 x3 x4 kx60 n) kx60
    else
    if ib x2 96 then
    lt (wset w 6 x2.toNatClampNeg (((nI 100) * x3) + x5)) fun w3 =>
      m_X8_fetches_j54 x1 (x2 + (nI 1)) x3 x4 x5 w3 (m_X8_fetches_L20 x1 x3 x4 kx60 n) kx60
    else none
def m_X8_fetches_L4 (x1 : Int32) (kx66 : Int32 → Wd → Option (Int32 × Wd)) : Nat → Int32 → Int32 → Wd → Option (Int32 × Wd)
  | 0, _, _, _ => none
  | n + 1, x2, x3, w =>
    if (nI 4) ≤ x3 then
      kx66 x2 w
    else
    (m_X8_boundOf x1 x3 w).bind fun o1 =>
    m_X8_fetches_L20 x1 x3 o1 (fun x2_2 w3 =>
      (m_X8_fetches_L4 x1 kx66 n) x2_2 (x3 + (nI 1)) w3) FU x2 (nI 1) w
def m_X8_fetches_j166 (x1 : Int32) (x2 : Int32) (x3 : Int32) (x4 : Int32) (x5 : Int32) (w : Wd) (kc : Int32 → Int32 → Wd → Option (Int32 × Wd)) : Option (Int32 × Wd) :=
kc x3 (x5 + (nI 1)) w
def m_X8_fetches_j162 (x1 : Int32) (x2 : Int32) (x3 : Int32) (x4 : Int32) (x5 : Int32) (s1 : Int32) (s2 : Int32) (w : Wd) (kc : Int32 → Int32 → Wd → Option (Int32 × Wd)) : Option (Int32 × Wd) :=
lt (wset w 0 8 (s1 + s2)) fun w1 =>
m_X8_fetches_j166 x1 x2 x3 x4 x5 w1 kc
def m_X8_fetches_j145 (x1 : Int32) (x2 : Int32) (x4 : Int32) (x5 : Int32) (x6 : Int32) (s0 : Int32) (s1 : Int32) (w : Wd) (kc : Int32 → Int32 → Wd → Option (Int32 × Wd)) : Option (Int32 × Wd) :=
lt ((s0 + s1)) fun x3_1 =>
if x6 = 0 then
  m_X8_fetches_j162 x1 x2 x3_1 x4 x5 (w 0 8) (nI 0) w kc
else
m_X8_fetches_j162 x1 x2 x3_1 x4 x5 (w 0 8) (nI 1) w kc
def m_X8_fetches_L82 (x1 : Int32) (x2 : Int32) (x4 : Int32) : Nat → Int32 → Int32 → Wd → Option (Int32 × Wd)
  | 0, _, _, _ => none
  | n + 1, x3, x5, w =>
    if x2 ≤ x5 then
      some (x3, w)
    else
    if ib x5 96 then
      if ib x5 96 then
        (m_X8_knows x4 ((w 6 x5.toNatClampNeg) / (nI 100)) ((w 6 x5.toNatClampNeg) - (w 6 x5.toNatClampNeg) / (nI 100) * (nI 100)) w).bind fun o3 =>
        if o3 = 0 then
          m_X8_fetches_j166 x1 x2 x3 x4 x5 w (m_X8_fetches_L82 x1 x2 x4 n)
        else
        if ib x5 96 then
          (m_X8_arrives x1 (w 6 x5.toNatClampNeg) x4 w).bind fun o5 =>
          if ¬ o5.1 = (nI 1) then
            m_X8_fetches_j145 x1 x2 x4 x5 o5.1 x3 (nI 0) o5.2 (m_X8_fetches_L82 x1 x2 x4 n)
          else
          m_X8_fetches_j145 x1 x2 x4 x5 o5.1 x3 (nI 1) o5.2 (m_X8_fetches_L82 x1 x2 x4 n)
        else none
      else none
    else none
def m_X8_fetches (x1 : Int32) (w : Wd) : Option (Int32 × Wd) :=
  m_X8_fetches_L4 x1 (fun x2_1 w2 =>
    if ib ((nI 7) + x1) 1423 then
      lt ((w2 1 ((nI 7) + x1).toNatClampNeg)) fun x4_4 =>
      m_X8_fetches_L82 x1 x2_1 x4_4 FU (nI 0) (nI 0) w2
    else none) FU (nI 0) (nI 0) w
def m_X8_asks_L31 (x1 : Int32) (x3 : Int32) (kx56 : Int32 → Wd → Option (Int32 × Wd)) : Nat → Int32 → Wd → Option (Int32 × Wd)
  | 0, _, _ => none
  | n + 1, x4, w =>
    (m_X8_depth x4 w).bind fun o1 =>
    if o1 ≤ x3 then
      kx56 x4 w
    else
    if ib ((nI 7) + x4) 1423 then
      lt ((w 1 ((nI 7) + x4).toNatClampNeg)) fun x4_3 =>
      (m_X8_asks_L31 x1 x3 kx56 n) x4_3 w
    else none
def m_X8_asks_L19 (x1 : Int32) (kx69 : Int32 → Wd → Option (Int32 × Wd)) : Nat → Int32 → Int32 → Wd → Option (Int32 × Wd)
  | 0, _, _, _ => none
  | n + 1, x2, x3, w =>
    (m_X8_depth x1 w).bind fun o1 =>
    if o1 < x3 then
      kx69 x2 w
    else
    m_X8_asks_L31 x1 x3 (fun x4_2 w3 =>
      (m_X8_fetches x4_2 w3).bind fun o4 =>
      (m_X8_asks_L19 x1 kx69 n) o4.1 (x3 + (nI 1)) o4.2) FU x1 w
def m_X8_asks (x1 : Int32) (w : Wd) : Option (Int32 × Wd) :=
  (m_X8_isChild x1 w).bind fun o1 =>
  if ¬ o1 = 0 then
    lt (wset w 0 8 (nI 0)) fun w2 =>
    m_X8_asks_L19 x1 (fun x2_3 w4 =>
      if ¬ (w4 0 8) = 0 then
        some (x2_3, w4)
      else
      some ((-9 : Int32), w4)) FU (nI 0) (nI 1) w2
  else
  some ((-1 : Int32), w)
def m_X8_write (x1 : Int32) (w : Wd) : Option (Int32 × Wd) :=
  (m_X8_hold w).bind fun o1 =>
  (m_X8_makes x1 o1).bind fun o2 =>
  (m_X8_closes o2.1 o2.2).bind fun o3 =>
  some (o3.1, o3.2)
def m_X8_cause (x1 : Int32) (x2 : Int32) (x3 : Int32) (w : Wd) : Option (Int32) :=
  (m_X8_isUpdate x1 x2 w).bind fun o1 =>
  if o1 = 0 then
    some (-1 : Int32)
  else
  (m_X8_isOrigin x3).bind fun o2 =>
  if o2 = 0 then
    some (-1 : Int32)
  else
  (m_X8_causeOf x1 x2 x3 w).bind fun o3 =>
  some o3
def m_X8_deliver (x1 : Int32) (x2 : Int32) (x3 : Int32) (w : Wd) : Option (Int32 × Wd) :=
  (m_X8_hold w).bind fun o1 =>
  (m_X8_delivers x1 x2 x3 o1).bind fun o2 =>
  (m_X8_closes o2.1 o2.2).bind fun o3 =>
  some (o3.1, o3.2)
def m_X8_lose (x1 : Int32) (x2 : Int32) (x3 : Int32) (w : Wd) : Option (Int32 × Wd) :=
  (m_X8_hold w).bind fun o1 =>
  (m_X8_loses x1 x2 x3 o1).bind fun o2 =>
  (m_X8_closes o2.1 o2.2).bind fun o3 =>
  some (o3.1, o3.2)
def m_X8_queued (x1 : Int32) (x2 : Int32) (x3 : Int32) (w : Wd) : Option (Int32) :=
  (m_X8_isQueue x1 x2 w).bind fun o1 =>
  if o1 = 0 then
    some (-1 : Int32)
  else
  if (-1 : Int32) ≤ x3 then
    (m_X8_queueOf x1 x2).bind fun o2 =>
    if 0 ≤ x3 then
      if ib o2 1423 then
        if (w 1 o2.toNatClampNeg) ≤ x3 then
          some (-9 : Int32)
        else
        if ib ((o2 + (nI 1)) + x3) 1423 then
          some (w 1 ((o2 + (nI 1)) + x3).toNatClampNeg)
        else none
      else none
    else
    if ib o2 1423 then
      some (w 1 o2.toNatClampNeg)
    else none
  else
  some (-1 : Int32)
def m_X8_bound (x1 : Int32) (x2 : Int32) (w : Wd) : Option (Int32) :=
  (m_X8_isProxy x1 w).bind fun o1 =>
  if o1 = 0 then
    some (-1 : Int32)
  else
  (m_X8_isOrigin x2).bind fun o2 =>
  if o2 = 0 then
    some (-1 : Int32)
  else
  (m_X8_boundOf x1 x2 w).bind fun o3 =>
  some o3
def m_X8_exception_j76 (x1 : Int32) (x2 : Int32) (x4 : Int32) (x5 : Int32) (x6 : Int32) (w : Wd) (kc : Int32 → Int32 → Option (Int32)) : Option (Int32) :=
kc x4 (x6 + (nI 1))
def m_X8_exception_L47 (x1 : Int32) (x2 : Int32) (x5 : Int32) (w : Wd) : Nat → Int32 → Int32 → Option (Int32)
  | 0, _, _ => none
  | n + 1, x4, x6 =>
    if x5 ≤ x6 then
      some (-9 : Int32)
    else
    (m_X8_knows x1 x2 x6 w).bind fun o1 =>
    if ¬ o1 = 0 then
      m_X8_exception_j76 x1 x2 x4 x5 x6 w (m_X8_exception_L47 x1 x2 x5 w n)
    else
    if ¬ x4 = 0 then
      m_X8_exception_j76 x1 x2 (x4 + (-1 : Int32)) x5 x6 w (m_X8_exception_L47 x1 x2 x5 w n)
    else
    some x6
def m_X8_exception (x1 : Int32) (x2 : Int32) (x3 : Int32) (w : Wd) : Option (Int32) :=
  (m_X8_isProxy x1 w).bind fun o1 =>
  if o1 = 0 then
    some (-1 : Int32)
  else
  (m_X8_isOrigin x2).bind fun o2 =>
  if o2 = 0 then
    some (-1 : Int32)
  else
  if (-1 : Int32) ≤ x3 then
    if 0 ≤ x3 then
      (m_X8_boundOf x1 x2 w).bind fun o3 =>
      m_X8_exception_L47 x1 x2 o3 w FU x3 (nI 1)
    else
    (m_X8_rangesOf x1 x2 w).bind fun o4 =>
    some o4
  else
  some (-1 : Int32)
def m_X8_served (x1 : Int32) (x2 : Int32) (w : Wd) : Option (Int32 × Wd) :=
  (m_X8_isProxy x1 w).bind fun o1 =>
  if o1 = 0 then
    some ((-1 : Int32), w)
  else
  (m_X8_isOrigin x2).bind fun o2 =>
  if ¬ o2 = 0 then
    (m_X8_serves x1 w).bind fun o3 =>
    if ib x2 4 then
      some ((o3 5 x2.toNatClampNeg), o3)
    else none
  else
  some ((-1 : Int32), w)
def m_X8_status (x1 : Int32) (x2 : Int32) (x3 : Int32) (w : Wd) : Option (Int32 × Wd) :=
  (m_X8_isProxy x1 w).bind fun o1 =>
  if o1 = 0 then
    some ((-1 : Int32), w)
  else
  (m_X8_isUpdate x2 x3 w).bind fun o2 =>
  if ¬ o2 = 0 then
    (m_X8_serves x1 w).bind fun o3 =>
    if ib x2 4 then
      if x3 ≤ (o3 5 x2.toNatClampNeg) then
        (m_X8_keptPlace x1 (((nI 100) * x2) + x3) o3).bind fun o5 =>
        if 0 ≤ o5 then
          some ((nI 3), o3)
        else
        some ((nI 2), o3)
      else
      (m_X8_knows x1 x2 x3 o3).bind fun o6 =>
      if o6 = 0 then
        some ((nI 0), o3)
      else
      some ((nI 1), o3)
    else none
  else
  some ((-1 : Int32), w)
def m_X8_reaches_j92 (x1 : Int32) (x2 : Int32) (x3 : Int32) (x4 : Int32) (s1 : Int32) (s2 : Int32) (w : Wd) (kc : Int32 → Int32 → Wd → Option (Int32 × Wd)) (kx99 : Int32 → Wd → Option (Int32 × Wd)) : Option (Int32 × Wd) :=
if ib s1 4 then
lt (wset w 7 s1.toNatClampNeg s2) fun w2 =>
  kc x1 (x4 + (nI 1)) w2
else none
def m_X8_reaches_j61 (x2 : Int32) (x3 : Int32) (x4 : Int32) (x5 : Int32) (s0 : Int32) (w : Wd) (kc : Int32 → Int32 → Wd → Option (Int32 × Wd)) (kx99 : Int32 → Wd → Option (Int32 × Wd)) : Option (Int32 × Wd) :=
if ib x4 4 then
  if x5 ≤ (w 7 x4.toNatClampNeg) then
    if ib x4 4 then
      m_X8_reaches_j92 s0 x2 x3 x4 x4 (w 7 x4.toNatClampNeg) w kc kx99
    else none
  else
  m_X8_reaches_j92 s0 x2 x3 x4 x4 x5 w kc kx99
else none
def m_X8_reaches_j56 (x2 : Int32) (x3 : Int32) (x4 : Int32) (x5 : Int32) (w : Wd) (kc : Int32 → Int32 → Wd → Option (Int32 × Wd)) (kx99 : Int32 → Wd → Option (Int32 × Wd)) : Option (Int32 × Wd) :=
m_X8_reaches_j61 x2 x3 x4 x5 (nI 1) w kc kx99
def m_X8_reaches_L24 (x2 : Int32) (x3 : Int32) (kx99 : Int32 → Wd → Option (Int32 × Wd)) : Nat → Int32 → Int32 → Wd → Option (Int32 × Wd)
  | 0, _, _, _ => none
  | n + 1, x1, x4, w =>
    if (nI 4) ≤ x4 then
      kx99 x1 w
    else
    (m_X8_causeOf x2 x3 x4 w).bind fun o1 =>
    if ¬ x1 = 0 then
      m_X8_reaches_j56 x2 x3 x4 o1 w (m_X8_reaches_L24 x2 x3 kx99 n) kx99
    else
    if ib x4 4 then
      if o1 ≤ (w 7 x4.toNatClampNeg) then
        m_X8_reaches_j61 x2 x3 x4 o1 (nI 0) w (m_X8_reaches_L24 x2 x3 kx99 n) kx99
      else
      m_X8_reaches_j56 x2 x3 x4 o1 w (m_X8_reaches_L24 x2 x3 kx99 n) kx99
    else none
def m_X8_reaches_L11 (x2 : Int32) (kx105 : Int32 → Wd → Option (Int32 × Wd)) : Nat → Int32 → Int32 → Wd → Option (Int32 × Wd)
  | 0, _, _, _ => none
  | n + 1, x1, x3, w =>
    if ib x2 4 then
      if (w 7 x2.toNatClampNeg) < x3 then
        kx105 x1 w
      else
      m_X8_reaches_L24 x2 x3 (fun x1_2 w3 =>
        (m_X8_reaches_L11 x2 kx105 n) x1_2 (x3 + (nI 1)) w3) FU x1 (nI 0) w
    else none
def m_X8_reaches_L4 : Nat → Int32 → Int32 → Wd → Option (Int32 × Wd)
  | 0, _, _, _ => none
  | n + 1, x1, x2, w =>
    if (nI 4) ≤ x2 then
      some ((x1 &&& 1), w)
    else
    m_X8_reaches_L11 x2 (fun x1_1 w2 =>
      (m_X8_reaches_L4 n) x1_1 (x2 + (nI 1)) w2) FU x1 (nI 1) w
def m_X8_reaches (w : Wd) : Option (Int32 × Wd) :=
  m_X8_reaches_L4 FU (nI 0) (nI 0) w
def m_X8_missing_j45 (x1 : Int32) (x2 : Int32) (x3 : Int32) (x4 : Int32) (s1 : Int32) (s2 : Int32) (w : Wd) (kc : Int32 → Wd → Option (Int32 × Wd)) (kx52 : Wd → Option (Int32 × Wd)) : Option (Int32 × Wd) :=
if ib s1 4 then
lt (wset w 7 s1.toNatClampNeg s2) fun w2 =>
  kc (x4 + (nI 1)) w2
else none
def m_X8_missing_L22 (x1 : Int32) (x2 : Int32) (x3 : Int32) (kx52 : Wd → Option (Int32 × Wd)) : Nat → Int32 → Wd → Option (Int32 × Wd)
  | 0, _, _ => none
  | n + 1, x4, w =>
    if (nI 4) ≤ x4 then
      kx52 w
    else
    if ¬ x4 = x2 then
      m_X8_missing_j45 x1 x2 x3 x4 x4 (nI 0) w (m_X8_missing_L22 x1 x2 x3 kx52 n) kx52
    else
    m_X8_missing_j45 x1 x2 x3 x4 x4 x3 w (m_X8_missing_L22 x1 x2 x3 kx52 n) kx52
def m_X8_missing_L55 (x1 : Int32) (kx69 : Wd → Option (Int32 × Wd)) : Nat → Int32 → Wd → Option (Int32 × Wd)
  | 0, _, _ => none
  | n + 1, x4, w =>
    if x4 = 0 then
      kx69 w
    else
    (m_X8_reaches w).bind fun o1 =>
    (m_X8_missing_L55 x1 kx69 n) o1.1 o1.2
def m_X8_missing_j115 (x1 : Int32) (x6 : Int32) (x7 : Int32) (s0 : Int32) (s1 : Int32) (w : Wd) (kc : Int32 → Int32 → Wd → Option (Int32 × Wd)) (kx124 : Int32 → Wd → Option (Int32 × Wd)) : Option (Int32 × Wd) :=
lt ((s0 + s1)) fun x5_1 =>
kc x5_1 (x7 + (nI 1)) w
def m_X8_missing_L84 (x1 : Int32) (x6 : Int32) (kx124 : Int32 → Wd → Option (Int32 × Wd)) : Nat → Int32 → Int32 → Wd → Option (Int32 × Wd)
  | 0, _, _, _ => none
  | n + 1, x5, x7, w =>
    if ib x6 4 then
      if (w 7 x6.toNatClampNeg) < x7 then
        kx124 x5 w
      else
      (m_X8_knows x1 x6 x7 w).bind fun o2 =>
      if o2 = 0 then
        m_X8_missing_j115 x1 x6 x7 x5 (nI 1) w (m_X8_missing_L84 x1 x6 kx124 n) kx124
      else
      m_X8_missing_j115 x1 x6 x7 x5 (nI 0) w (m_X8_missing_L84 x1 x6 kx124 n) kx124
    else none
def m_X8_missing_L75 (x1 : Int32) : Nat → Int32 → Int32 → Wd → Option (Int32 × Wd)
  | 0, _, _, _ => none
  | n + 1, x5, x6, w =>
    if (nI 4) ≤ x6 then
      some (x5, w)
    else
    m_X8_missing_L84 x1 x6 (fun x5_1 w2 =>
      (m_X8_missing_L75 x1 n) x5_1 (x6 + (nI 1)) w2) FU x5 (nI 1) w
def m_X8_missing (x1 : Int32) (x2 : Int32) (x3 : Int32) (w : Wd) : Option (Int32 × Wd) :=
  (m_X8_isProxy x1 w).bind fun o1 =>
  if o1 = 0 then
    some ((-1 : Int32), w)
  else
  (m_X8_isUpdate x2 x3 w).bind fun o2 =>
  if ¬ o2 = 0 then
    m_X8_missing_L22 x1 x2 x3 (fun w3 =>
      m_X8_missing_L55 x1 (fun w4 =>
        m_X8_missing_L75 x1 FU (nI 0) (nI 0) w4) FU (nI 1) w3) FU (nI 0) w
  else
  some ((-1 : Int32), w)
def m_X8_kept (x1 : Int32) (x2 : Int32) (w : Wd) : Option (Int32) :=
  (m_X8_isProxy x1 w).bind fun o1 =>
  if o1 = 0 then
    some (-1 : Int32)
  else
  if 0 ≤ x2 then
    if ib ((nI 439) + x1) 1423 then
      if (w 1 ((nI 439) + x1).toNatClampNeg) ≤ x2 then
        some (-9 : Int32)
      else
      if ib (((nI 447) + ((nI 96) * x1)) + x2) 1423 then
        some (w 1 (((nI 447) + ((nI 96) * x1)) + x2).toNatClampNeg)
      else none
    else none
  else
  some (-1 : Int32)
def m_X8_read_L51 (x1 : Int32) (x4 : Int32) (kx85 : Int32 → Int32 → Wd → Option (Int32 × Wd)) : Nat → Int32 → Int32 → Wd → Option (Int32 × Wd)
  | 0, _, _, _ => none
  | n + 1, x5, x6, w =>
    if x6 ≤ 0 then
      kx85 x5 x6 w
    else
    (m_X8_keptPlace x6 x4 w).bind fun o1 =>
    if 0 ≤ o1 then
      kx85 x5 x6 w
    else
    if ib ((nI 7) + x6) 1423 then
      lt ((w 1 ((nI 7) + x6).toNatClampNeg)) fun x6_3 =>
      (m_X8_read_L51 x1 x4 kx85 n) (x5 + (nI 1)) x6_3 w
    else none
def m_X8_read_j115 (x5 : Int32) (w : Wd) : Option (Int32 × Wd) :=
(m_X8_ends x5 w).bind fun o1 =>
some (o1.1, o1.2)
def m_X8_read_j85 (x1 : Int32) (x4 : Int32) (x5 : Int32) (x6 : Int32) (w : Wd) : Option (Int32 × Wd) :=
(m_X8_keptPlace x6 x4 w).bind fun o1 =>
if 0 ≤ o1 then
  (m_X8_hold w).bind fun o2 =>
  if x5 ≤ 0 then
    m_X8_read_j115 x5 o2
  else
  (m_X8_keeps x1 x4 o2).bind fun o3 =>
  m_X8_read_j115 x5 o3
else
some ((-9 : Int32), w)
def m_X8_read (x1 : Int32) (x2 : Int32) (x3 : Int32) (w : Wd) : Option (Int32 × Wd) :=
  (m_X8_isProxy x1 w).bind fun o1 =>
  if o1 = 0 then
    some ((-1 : Int32), w)
  else
  (m_X8_isUpdate x2 x3 w).bind fun o2 =>
  if ¬ o2 = 0 then
    (m_X8_serves x1 w).bind fun o3 =>
    if ib x2 4 then
      if x3 ≤ (o3 5 x2.toNatClampNeg) then
        lt ((((nI 100) * x2) + x3)) fun x4_5 =>
        m_X8_read_L51 x1 x4_5 (fun x5_6 x6_7 w8 =>
          m_X8_read_j85 x1 x4_5 x5_6 x6_7 w8) FU (nI 0) x1 o3
      else
      some ((-2 : Int32), o3)
    else none
  else
  some ((-1 : Int32), w)
def m_X8_ask (x1 : Int32) (w : Wd) : Option (Int32 × Wd) :=
  (m_X8_hold w).bind fun o1 =>
  (m_X8_asks x1 o1).bind fun o2 =>
  (m_X8_closes o2.1 o2.2).bind fun o3 =>
  some (o3.1, o3.2)
def m_X8_covers_j74 (x1 : Int32) (x2 : Int32) (x4 : Int32) (s0 : Int32) (w : Wd) (kc : Int32 → Int32 → Option (Int32)) (kx81 : Int32 → Option (Int32)) : Option (Int32) :=
kc s0 (x4 + (nI 1))
def m_X8_covers_j73 (x1 : Int32) (x2 : Int32) (x4 : Int32) (w : Wd) (kc : Int32 → Int32 → Option (Int32)) (kx81 : Int32 → Option (Int32)) : Option (Int32) :=
m_X8_covers_j74 x1 x2 x4 (nI 0) w kc kx81
def m_X8_covers_L23 (x1 : Int32) (x2 : Int32) (w : Wd) (kx81 : Int32 → Option (Int32)) : Nat → Int32 → Int32 → Option (Int32)
  | 0, _, _ => none
  | n + 1, x3, x4 =>
    if (nI 4) ≤ x4 then
      kx81 x3
    else
    if x3 = 0 then
      m_X8_covers_j73 x1 x2 x4 w (m_X8_covers_L23 x1 x2 w kx81 n) kx81
    else
    if ib (((nI 407) + ((nI 4) * x2)) + x4) 1423 then
      if ib (((nI 407) + ((nI 4) * x1)) + x4) 1423 then
        if ¬ ((w 1 (((nI 407) + ((nI 4) * x2)) + x4).toNatClampNeg) &&& ((w 1 (((nI 407) + ((nI 4) * x1)) + x4).toNatClampNeg) ^^^ (-1 : Int32))) = 0 then
          m_X8_covers_j73 x1 x2 x4 w (m_X8_covers_L23 x1 x2 w kx81 n) kx81
        else
        m_X8_covers_j74 x1 x2 x4 (nI 1) w (m_X8_covers_L23 x1 x2 w kx81 n) kx81
      else none
    else none
def m_X8_covers (x1 : Int32) (x2 : Int32) (w : Wd) : Option (Int32) :=
  (m_X8_isProxy x1 w).bind fun o1 =>
  if o1 = 0 then
    some (-1 : Int32)
  else
  (m_X8_isProxy x2 w).bind fun o2 =>
  if ¬ o2 = 0 then
    m_X8_covers_L23 x1 x2 w (fun x3_3 =>
      if x3_3 = 0 then
        some (nI 0)
      else
      some (nI 1)) FU (nI 1) (nI 0)
  else
  some (-1 : Int32)
def m_X8_upToDate_j59 (x1 : Int32) (x2 : Int32) (x4 : Int32) (s0 : Int32) (w : Wd) (kc : Int32 → Int32 → Wd → Option (Int32 × Wd)) (kx66 : Int32 → Wd → Option (Int32 × Wd)) : Option (Int32 × Wd) :=
kc s0 (x4 + (nI 1)) w
def m_X8_upToDate_j58 (x1 : Int32) (x2 : Int32) (x4 : Int32) (w : Wd) (kc : Int32 → Int32 → Wd → Option (Int32 × Wd)) (kx66 : Int32 → Wd → Option (Int32 × Wd)) : Option (Int32 × Wd) :=
m_X8_upToDate_j59 x1 x2 x4 (nI 0) w kc kx66
def m_X8_upToDate_L24 (x1 : Int32) (x2 : Int32) (kx66 : Int32 → Wd → Option (Int32 × Wd)) : Nat → Int32 → Int32 → Wd → Option (Int32 × Wd)
  | 0, _, _, _ => none
  | n + 1, x3, x4, w =>
    if (nI 4) ≤ x4 then
      kx66 x3 w
    else
    if x3 = 0 then
      m_X8_upToDate_j58 x1 x2 x4 w (m_X8_upToDate_L24 x1 x2 kx66 n) kx66
    else
    if ib x4 4 then
      if ib ((nI 19) + x4) 1423 then
        if ¬ (w 5 x4.toNatClampNeg) = (w 1 ((nI 19) + x4).toNatClampNeg) then
          m_X8_upToDate_j58 x1 x2 x4 w (m_X8_upToDate_L24 x1 x2 kx66 n) kx66
        else
        m_X8_upToDate_j59 x1 x2 x4 (nI 1) w (m_X8_upToDate_L24 x1 x2 kx66 n) kx66
      else none
    else none
def m_X8_upToDate_j76 (x2 : Int32) (s0 : Int32) (s1 : Int32) (w : Wd) (kc : Int32 → Int32 → Wd → Option (Int32 × Wd)) : Option (Int32 × Wd) :=
lt ((s0 + s1)) fun x1_1 =>
kc x1_1 (x2 + (nI 1)) w
def m_X8_upToDate_L4 : Nat → Int32 → Int32 → Wd → Option (Int32 × Wd)
  | 0, _, _, _ => none
  | n + 1, x1, x2, w =>
    if ib (nI 0) 1423 then
      if (w 1 (nI 0).toNatClampNeg) ≤ x2 then
        some (x1, w)
      else
      (m_X8_serves x2 w).bind fun o2 =>
      m_X8_upToDate_L24 x1 x2 (fun x3_3 w4 =>
        if x3_3 = 0 then
          m_X8_upToDate_j76 x2 x1 (nI 0) w4 (m_X8_upToDate_L4 n)
        else
        m_X8_upToDate_j76 x2 x1 (nI 1) w4 (m_X8_upToDate_L4 n)) FU (nI 1) (nI 0) o2
    else none
def m_X8_upToDate (w : Wd) : Option (Int32 × Wd) :=
  m_X8_upToDate_L4 FU (nI 0) (nI 0) w
def m_X8_appendCharacter (x1 : Int32) (w : Wd) : Option (Int32 × Wd) :=
  (m_X8_in x1 (nI 0) (nI 255)).bind fun o1 =>
  if ¬ o1 = 0 then
    if ¬ (w 0 5) = (nI 100) then
      if ib (w 0 5) 100 then
      lt (wset w 4 (w 0 5).toNatClampNeg x1) fun w3 =>
        lt (wset w3 0 5 ((w3 0 5) + (nI 1))) fun w4 =>
        some ((w4 0 5), w4)
      else none
    else
    some ((-3 : Int32), w)
  else
  some ((-1 : Int32), w)
def m_X8_clearText (w : Wd) : Option (Int32 × Wd) :=
  lt ((w 0 5)) fun x1_1 =>
  lt (wset w 0 5 (nI 0)) fun w2 =>
  some (x1_1, w2)
def m_X8_skips_L0 : Nat → Wd → Option (Wd)
  | 0, _ => none
  | n + 1, w =>
    if (w 0 5) ≤ (w 0 10) then
      some w
    else
    if ib (w 0 10) 100 then
      if ¬ (w 4 (w 0 10).toNatClampNeg) = (nI 32) then
        some w
      else
      lt (wset w 0 10 ((w 0 10) + (nI 1))) fun w2 =>
      (m_X8_skips_L0 n) w2
    else none
def m_X8_skips (w : Wd) : Option (Wd) :=
  m_X8_skips_L0 FU w
def m_X8_digit (x1 : Int32) (x2 : Int32) (w : Wd) : Option (Int32 × Wd) :=
  (m_X8_skips w).bind fun o1 =>
  if (o1 0 5) ≤ (o1 0 10) then
    some ((-9 : Int32), o1)
  else
  if ib (o1 0 10) 100 then
    (m_X8_in (o1 4 (o1 0 10).toNatClampNeg) ((nI 48) + x1) ((nI 48) + x2)).bind fun o3 =>
    if o3 = 0 then
      some ((-9 : Int32), o1)
    else
    lt (wset o1 0 10 ((o1 0 10) + (nI 1))) fun w4 =>
    if ib ((w4 0 10) - (nI 1)) 100 then
      some (((w4 4 ((w4 0 10) - (nI 1)).toNatClampNeg) - (nI 48)), w4)
    else none
  else none
def m_X8_isCommand_j164 (s1 : Int32) (w : Wd) : Option (Int32 × Wd) :=
lt (wset w 0 13 s1) fun w1 =>
if (w1 0 13) < 0 then
  some ((nI 0), w1)
else
some ((nI 1), w1)
def m_X8_isCommand_j136 (x1 : Int32) (s1 : Int32) (w : Wd) : Option (Int32 × Wd) :=
lt (wset w 0 12 s1) fun w1 =>
if 0 ≤ (w1 0 12) then
  if x1 = 0 then
    m_X8_isCommand_j164 (nI 0) w1
  else
  (m_X8_digit (nI 1) (nI 9) w1).bind fun o2 =>
  m_X8_isCommand_j164 o2.1 o2.2
else
some ((nI 0), w1)
def m_X8_isCommand_j133 (x1 : Int32) (s2 : Int32) (s3 : Int32) (w : Wd) : Option (Int32 × Wd) :=
(m_X8_digit s2 s3 w).bind fun o1 =>
m_X8_isCommand_j136 x1 o1.1 o1.2
def m_X8_isCommand_j79 (x1 : Int32) (w : Wd) : Option (Int32 × Wd) :=
lt (wset w 0 10 ((w 0 10) + (nI 1))) fun w1 =>
if x1 = 0 then
  if ¬ (w1 0 11) = (nI 119) then
    if ib (nI 0) 1423 then
      m_X8_isCommand_j133 x1 (nI 0) ((w1 1 (nI 0).toNatClampNeg) - (nI 1)) w1
    else none
  else
  m_X8_isCommand_j133 x1 (nI 0) (nI 3) w1
else
if ib (nI 0) 1423 then
  (m_X8_digit (nI 1) ((w1 1 (nI 0).toNatClampNeg) - (nI 1)) w1).bind fun o4 =>
  m_X8_isCommand_j136 x1 o4.1 o4.2
else none
def m_X8_isCommand_j54 (s0 : Int32) (w : Wd) : Option (Int32 × Wd) :=
if ¬ s0 = 0 then
  m_X8_isCommand_j79 s0 w
else
if (w 0 11) = (nI 119) then
  m_X8_isCommand_j79 s0 w
else
if (w 0 11) = (nI 97) then
  m_X8_isCommand_j79 s0 w
else
some ((nI 0), w)
def m_X8_isCommand_j49 (w : Wd) : Option (Int32 × Wd) :=
m_X8_isCommand_j54 (nI 1) w
def m_X8_isCommand (w : Wd) : Option (Int32 × Wd) :=
  if ib (w 0 10) 100 then
    lt (wset w 0 11 (w 4 (w 0 10).toNatClampNeg)) fun w2 =>
    if (w2 0 11) = (nI 117) then
      m_X8_isCommand_j49 w2
    else
    if (w2 0 11) = (nI 100) then
      m_X8_isCommand_j49 w2
    else
    if (w2 0 11) = (nI 120) then
      m_X8_isCommand_j49 w2
    else
    if ¬ (w2 0 11) = (nI 121) then
      m_X8_isCommand_j54 (nI 0) w2
    else
    m_X8_isCommand_j49 w2
  else none
def m_X8_does (w : Wd) : Option (Int32 × Wd) :=
  lt ((w 0 11)) fun sw1 =>
  if sw1 = (nI 100) then
    (m_X8_delivers (w 0 12) (nI 1) (w 0 13) w).bind fun o2 =>
    some (o2.1, o2.2)
  else
  if sw1 = (nI 117) then
    (m_X8_delivers (w 0 12) (nI 0) (w 0 13) w).bind fun o3 =>
    some (o3.1, o3.2)
  else
  if sw1 = (nI 119) then
    (m_X8_makes (w 0 12) w).bind fun o4 =>
    some (o4.1, o4.2)
  else
  if sw1 = (nI 120) then
    (m_X8_loses (w 0 12) (nI 0) (w 0 13) w).bind fun o5 =>
    some (o5.1, o5.2)
  else
  if sw1 = (nI 121) then
    (m_X8_loses (w 0 12) (nI 1) (w 0 13) w).bind fun o6 =>
    some (o6.1, o6.2)
  else
  (m_X8_asks (w 0 12) w).bind fun o7 =>
  some (o7.1, o7.2)
def m_X8_runScript_L9 (kx27 : Wd → Option (Int32 × Wd)) (kx42 : Wd → Option (Int32 × Wd)) : Nat → Wd → Option (Int32 × Wd)
  | 0, _ => none
  | n + 1, w =>
    if (w 0 5) ≤ (w 0 10) then
      kx42 w
    else
    (m_X8_isCommand w).bind fun o1 =>
    if ¬ o1.1 = 0 then
      (m_X8_skips o1.2).bind fun o2 =>
      (m_X8_runScript_L9 kx27 kx42 n) o2
    else
    kx27 o1.2
def m_X8_runScript_j88 (s0 : Int32) (s1 : Int32) (w : Wd) (kc : Int32 → Wd → Option (Int32 × Wd)) (kx97 : Int32 → Wd → Option (Int32 × Wd)) : Option (Int32 × Wd) :=
lt ((s0 + s1)) fun x1_1 =>
(m_X8_skips w).bind fun o2 =>
kc x1_1 o2
def m_X8_runScript_j87 (s0 : Int32) (w : Wd) (kc : Int32 → Wd → Option (Int32 × Wd)) (kx97 : Int32 → Wd → Option (Int32 × Wd)) : Option (Int32 × Wd) :=
m_X8_runScript_j88 s0 (nI 0) w kc kx97
def m_X8_runScript_L57 (kx97 : Int32 → Wd → Option (Int32 × Wd)) : Nat → Int32 → Wd → Option (Int32 × Wd)
  | 0, _, _ => none
  | n + 1, x1, w =>
    if (w 0 5) ≤ (w 0 10) then
      kx97 x1 w
    else
    (m_X8_isCommand w).bind fun o1 =>
    if o1.1 = 0 then
      m_X8_runScript_j87 x1 o1.2 (m_X8_runScript_L57 kx97 n) kx97
    else
    (m_X8_does o1.2).bind fun o2 =>
    if o2.1 < 0 then
      m_X8_runScript_j87 x1 o2.2 (m_X8_runScript_L57 kx97 n) kx97
    else
    m_X8_runScript_j88 x1 (nI 1) o2.2 (m_X8_runScript_L57 kx97 n) kx97
def m_X8_runScript (w : Wd) : Option (Int32 × Wd) :=
  lt (wset w 0 10 (nI 0)) fun w1 =>
  (m_X8_skips w1).bind fun o2 =>
  m_X8_runScript_L9 (fun w3 =>
    some (((-10 : Int32) - (w3 0 10)), w3)) (fun w4 =>
    (m_X8_hold w4).bind fun o5 =>
    lt (wset o5 0 10 (nI 0)) fun w6 =>
    (m_X8_skips w6).bind fun o7 =>
    m_X8_runScript_L57 (fun x1_8 w9 =>
      lt (wset w9 0 5 (nI 0)) fun w10 =>
      (m_X8_ends x1_8 w10).bind fun o11 =>
      some (o11.1, o11.2)) FU (nI 0) o7) FU o2
def m_X8_undo_L22 (kx56 : Wd → Option (Int32 × Wd)) : Nat → Int32 → Wd → Option (Int32 × Wd)
  | 0, _, _ => none
  | n + 1, x1, w =>
    if (nI 1423) ≤ x1 then
      kx56 w
    else
    if ib (((nI 1423) * (w 0 3)) + x1) 8538 then
      if ib x1 1423 then
      lt (wset w 1 x1.toNatClampNeg (w 2 (((nI 1423) * (w 0 3)) + x1).toNatClampNeg)) fun w3 =>
        (m_X8_undo_L22 kx56 n) (x1 + (nI 1)) w3
      else none
    else none
def m_X8_undo (w : Wd) : Option (Int32 × Wd) :=
  if ¬ (w 0 3) = 0 then
    lt (wset w 0 3 ((w 0 3) - (nI 1))) fun w1 =>
    m_X8_undo_L22 (fun w2 =>
      some ((w2 0 3), w2)) FU (nI 0) w1
  else
  some ((-2 : Int32), w)
