/-! ===== the law, likewise ===== -/
def m_L_cell (L0 : Nat) (q0 : Nat) (x1 : Int32) (w : Wd) : Option (Int32) :=
  if (nI L0) ≤ x1 then
    some ((nI 40503) * (x1 + (nI 3)))
  else
  if ib x1 L0 then
    some (w q0 x1.toNatClampNeg)
  else none
def m_L_low (x0 : Int32) (x1 : Int32) : Option (Int32) :=
  if x1 = 0 then none else
  some ((x0 &&& (nI 2147483647)) - (x0 &&& (nI 2147483647)) / x1 * x1)
def m_L_serve_L6 (q0 : Nat) (q1 : Nat) (q3 : Nat) (x2 : Int32) (x4 : Int32) (kx24 : Wd → Option (Wd)) : Nat → Int32 → Wd → Option (Wd)
  | 0, _, _ => none
  | n + 1, x5, w =>
    if (nI 4) ≤ x5 then
      kx24 w
    else
    if ib x5 4 then
    lt (wset w q3 x5.toNatClampNeg (nI 12)) fun w2 =>
      (m_L_serve_L6 q0 q1 q3 x2 x4 kx24 n) (x5 + (nI 1)) w2
    else none
def m_L_serve_j185 (q0 : Nat) (q1 : Nat) (q3 : Nat) (x2 : Int32) (x5 : Int32) (s0 : Int32) (s1 : Int32) (w : Wd) (kc : Int32 → Int32 → Wd → Option (Wd)) (kx194 : Int32 → Wd → Option (Wd)) : Option (Wd) :=
lt ((s0 + s1)) fun x4_1 =>
kc x4_1 (x5 + (nI 1)) w
def m_L_serve_j172 (q0 : Nat) (q1 : Nat) (q3 : Nat) (r0 : Nat) (x2 : Int32) (x4 : Int32) (x5 : Int32) (x8 : Int32) (s1 : Int32) (s2 : Int32) (w : Wd) (kc : Int32 → Int32 → Wd → Option (Wd)) (kx194 : Int32 → Wd → Option (Wd)) : Option (Wd) :=
if ib s1 4 then
lt (wset w r0 s1.toNatClampNeg s2) fun w2 =>
  if x8 = 0 then
    m_L_serve_j185 q0 q1 q3 x2 x5 x4 (nI 0) w2 kc kx194
  else
  m_L_serve_j185 q0 q1 q3 x2 x5 x4 (nI 1) w2 kc kx194
else none
def m_L_serve_j151 (q0 : Nat) (q1 : Nat) (q3 : Nat) (x2 : Int32) (x4 : Int32) (x5 : Int32) (x6 : Int32) (x7 : Int32) (s0 : Int32) (w : Wd) (kc : Int32 → Int32 → Wd → Option (Wd)) (kx194 : Int32 → Wd → Option (Wd)) : Option (Wd) :=
if s0 = 0 then
  m_L_serve_j172 q0 q1 q3 q3 x2 x4 x5 s0 x6 (x7 - (nI 1)) w kc kx194
else
if ib x6 4 then
  m_L_serve_j172 q0 q1 q3 q3 x2 x4 x5 s0 x6 (w q3 x6.toNatClampNeg) w kc kx194
else none
def m_L_serve_j146 (q0 : Nat) (q1 : Nat) (q3 : Nat) (x2 : Int32) (x4 : Int32) (x5 : Int32) (x6 : Int32) (x7 : Int32) (w : Wd) (kc : Int32 → Int32 → Wd → Option (Wd)) (kx194 : Int32 → Wd → Option (Wd)) : Option (Wd) :=
m_L_serve_j151 q0 q1 q3 x2 x4 x5 x6 x7 (nI 1) w kc kx194
def m_L_serve_j150 (q0 : Nat) (q1 : Nat) (q3 : Nat) (x2 : Int32) (x4 : Int32) (x5 : Int32) (x6 : Int32) (x7 : Int32) (w : Wd) (kc : Int32 → Int32 → Wd → Option (Wd)) (kx194 : Int32 → Wd → Option (Wd)) : Option (Wd) :=
m_L_serve_j151 q0 q1 q3 x2 x4 x5 x6 x7 (nI 0) w kc kx194
def m_L_serve_L37 (q0 : Nat) (q1 : Nat) (q3 : Nat) (x2 : Int32) (kx194 : Int32 → Wd → Option (Wd)) : Nat → Int32 → Int32 → Wd → Option (Wd)
  | 0, _, _, _ => none
  | n + 1, x4, x5, w =>
    if (nI 48) ≤ x5 then
      kx194 x4 w
    else
    lt ((x5 / (nI 12))) fun x6_1 =>
    lt (((x5 - x5 / (nI 12) * (nI 12)) + (nI 1))) fun x7_2 =>
    if ib x6_1 4 then
      if (w q3 x6_1.toNatClampNeg) < x7_2 then
        m_L_serve_j146 q0 q1 q3 x2 x4 x5 x6_1 x7_2 w (m_L_serve_L37 q0 q1 q3 x2 kx194 n) kx194
      else
      if ib (((nI 4) * x2) + x6_1) 32 then
        if ¬ (((w q0 (((nI 4) * x2) + x6_1).toNatClampNeg) >>> (x7_2 &&& 31)) &&& (nI 1)) = (nI 1) then
          m_L_serve_j150 q0 q1 q3 x2 x4 x5 x6_1 x7_2 w (m_L_serve_L37 q0 q1 q3 x2 kx194 n) kx194
        else
        if ib x5 48 then
          if ib (nI 0) 4 then
            if (w q3 (nI 0).toNatClampNeg) < ((w q1 x5.toNatClampNeg) &&& (nI 31)) then
              m_L_serve_j150 q0 q1 q3 x2 x4 x5 x6_1 x7_2 w (m_L_serve_L37 q0 q1 q3 x2 kx194 n) kx194
            else
            if ib x5 48 then
              if ib (nI 1) 4 then
                if (w q3 (nI 1).toNatClampNeg) < (((w q1 x5.toNatClampNeg) >>> ((nI 5) &&& 31)) &&& (nI 31)) then
                  m_L_serve_j150 q0 q1 q3 x2 x4 x5 x6_1 x7_2 w (m_L_serve_L37 q0 q1 q3 x2 kx194 n) kx194
                else
                if ib x5 48 then
                  if ib (nI 2) 4 then
                    if (w q3 (nI 2).toNatClampNeg) < (((w q1 x5.toNatClampNeg) >>> ((nI 10) &&& 31)) &&& (nI 31)) then
                      m_L_serve_j150 q0 q1 q3 x2 x4 x5 x6_1 x7_2 w (m_L_serve_L37 q0 q1 q3 x2 kx194 n) kx194
                    else
                    if ib x5 48 then
                      if ib (nI 3) 4 then
                        if (w q3 (nI 3).toNatClampNeg) < (((w q1 x5.toNatClampNeg) >>> ((nI 15) &&& 31)) &&& (nI 31)) then
                          m_L_serve_j150 q0 q1 q3 x2 x4 x5 x6_1 x7_2 w (m_L_serve_L37 q0 q1 q3 x2 kx194 n) kx194
                        else
                        m_L_serve_j146 q0 q1 q3 x2 x4 x5 x6_1 x7_2 w (m_L_serve_L37 q0 q1 q3 x2 kx194 n) kx194
                      else none
                    else none
                  else none
                else none
              else none
            else none
          else none
        else none
      else none
    else none
def m_L_serve_L24 (q0 : Nat) (q1 : Nat) (q3 : Nat) (x2 : Int32) : Nat → Int32 → Wd → Option (Wd)
  | 0, _, _ => none
  | n + 1, x4, w =>
    if (nI 48) ≤ x4 then
      some w
    else
    m_L_serve_L37 q0 q1 q3 x2 (fun x4_1 w2 =>
      (m_L_serve_L24 q0 q1 q3 x2 n) x4_1 w2) FU (nI 0) (nI 0) w
def m_L_serve (q0 : Nat) (q1 : Nat) (q3 : Nat) (x2 : Int32) (w : Wd) : Option (Wd) :=
  m_L_serve_L6 q0 q1 q3 x2 (nI 0) (fun w1 =>
    m_L_serve_L24 q0 q1 q3 x2 FU (nI 0) w1) FU (nI 0) w
def m_L_ranges_j102 (q0 : Nat) (x1 : Int32) (x2 : Int32) (x3 : Int32) (x5 : Int32) (s0 : Int32) (w : Wd) (kc : Int32 → Int32 → Int32 → Option (Int32)) (kx110 : Int32 → Option (Int32)) : Option (Int32) :=
kc x2 s0 (x5 + (-1 : Int32))
def m_L_ranges_j101 (q0 : Nat) (x1 : Int32) (x2 : Int32) (x3 : Int32) (x5 : Int32) (w : Wd) (kc : Int32 → Int32 → Int32 → Option (Int32)) (kx110 : Int32 → Option (Int32)) : Option (Int32) :=
m_L_ranges_j102 q0 x1 x2 x3 x5 (nI 0) w kc kx110
def m_L_ranges_j85 (q0 : Nat) (x1 : Int32) (x3 : Int32) (x5 : Int32) (x6 : Int32) (x7 : Int32) (s0 : Int32) (s1 : Int32) (w : Wd) (kc : Int32 → Int32 → Int32 → Option (Int32)) (kx110 : Int32 → Option (Int32)) : Option (Int32) :=
lt ((s0 + s1)) fun x2_1 =>
if x7 = 0 then
  m_L_ranges_j101 q0 x1 x2_1 x3 x5 w kc kx110
else
if ¬ x6 = 0 then
  m_L_ranges_j101 q0 x1 x2_1 x3 x5 w kc kx110
else
m_L_ranges_j102 q0 x1 x2_1 x3 x5 (nI 1) w kc kx110
def m_L_ranges_j84 (q0 : Nat) (x1 : Int32) (x3 : Int32) (x5 : Int32) (x6 : Int32) (x7 : Int32) (s0 : Int32) (w : Wd) (kc : Int32 → Int32 → Int32 → Option (Int32)) (kx110 : Int32 → Option (Int32)) : Option (Int32) :=
m_L_ranges_j85 q0 x1 x3 x5 x6 x7 s0 (nI 0) w kc kx110
def m_L_ranges_j62 (q0 : Nat) (x1 : Int32) (x2 : Int32) (x3 : Int32) (x4 : Int32) (x5 : Int32) (x6 : Int32) (s0 : Int32) (w : Wd) (kc : Int32 → Int32 → Int32 → Option (Int32)) (kx110 : Int32 → Option (Int32)) : Option (Int32) :=
if s0 = 0 then
  m_L_ranges_j84 q0 x1 x3 x5 x6 s0 x2 w kc kx110
else
if ¬ x6 = 0 then
  m_L_ranges_j84 q0 x1 x3 x5 x6 s0 x2 w kc kx110
else
if ¬ x4 = 0 then
  m_L_ranges_j84 q0 x1 x3 x5 x6 s0 x2 w kc kx110
else
m_L_ranges_j85 q0 x1 x3 x5 x6 s0 x2 (nI 1) w kc kx110
def m_L_ranges_j42 (q0 : Nat) (x1 : Int32) (x2 : Int32) (x3 : Int32) (x4 : Int32) (x5 : Int32) (s0 : Int32) (w : Wd) (kc : Int32 → Int32 → Int32 → Option (Int32)) (kx110 : Int32 → Option (Int32)) : Option (Int32) :=
if ib (((nI 4) * x1) + x3) 32 then
  if ((w q0 (((nI 4) * x1) + x3).toNatClampNeg) >>> (x5 &&& 31)) ≤ 0 then
    m_L_ranges_j62 q0 x1 x2 x3 x4 x5 s0 (nI 0) w kc kx110
  else
  m_L_ranges_j62 q0 x1 x2 x3 x4 x5 s0 (nI 1) w kc kx110
else none
def m_L_ranges_L16 (q0 : Nat) (x1 : Int32) (x3 : Int32) (w : Wd) (kx110 : Int32 → Option (Int32)) : Nat → Int32 → Int32 → Int32 → Option (Int32)
  | 0, _, _, _ => none
  | n + 1, x2, x4, x5 =>
    if x5 ≤ 0 then
      kx110 x2
    else
    if ib (((nI 4) * x1) + x3) 32 then
      if ¬ (((w q0 (((nI 4) * x1) + x3).toNatClampNeg) >>> (x5 &&& 31)) &&& (nI 1)) = (nI 1) then
        m_L_ranges_j42 q0 x1 x2 x3 x4 x5 (nI 0) w (m_L_ranges_L16 q0 x1 x3 w kx110 n) kx110
      else
      m_L_ranges_j42 q0 x1 x2 x3 x4 x5 (nI 1) w (m_L_ranges_L16 q0 x1 x3 w kx110 n) kx110
    else none
def m_L_ranges_L4 (q0 : Nat) (x1 : Int32) (w : Wd) : Nat → Int32 → Int32 → Option (Int32)
  | 0, _, _ => none
  | n + 1, x2, x3 =>
    if (nI 4) ≤ x3 then
      some x2
    else
    m_L_ranges_L16 q0 x1 x3 w (fun x2_1 =>
      (m_L_ranges_L4 q0 x1 w n) x2_1 (x3 + (nI 1))) FU x2 (nI 0) (nI 13)
def m_L_ranges (q0 : Nat) (x1 : Int32) (w : Wd) : Option (Int32) :=
  m_L_ranges_L4 q0 x1 w FU (nI 0) (nI 0)
def m_L_put (q0 : Nat) (q1 : Nat) (x2 : Int32) (x3 : Int32) (w : Wd) : Option (Wd) :=
  lt (((nI 13) * (x2 - (nI 1)))) fun x4_1 =>
  if ib x4_1 52 then
    if (w q1 x4_1.toNatClampNeg) ≤ (nI 11) then
      if ib x4_1 52 then
        if ib x4_1 52 then
        lt (wset w q1 x4_1.toNatClampNeg ((w q1 x4_1.toNatClampNeg) + (nI 1))) fun w5 =>
          if ib x4_1 52 then
            if ib (x4_1 + (w5 q1 x4_1.toNatClampNeg)) 52 then
            lt (wset w5 q1 (x4_1 + (w5 q1 x4_1.toNatClampNeg)).toNatClampNeg x3) fun w8 =>
              some w8
            else none
          else none
        else none
      else none
    else
    if ib (nI 4) 24 then
      if ib (nI 4) 24 then
      lt (wset w q0 (nI 4).toNatClampNeg ((w q0 (nI 4).toNatClampNeg) + (nI 1))) fun w11 =>
        some w11
      else none
    else none
  else none
def m_L_take_L16 (q0 : Nat) (x2 : Int32) (x3 : Int32) (kx44 : Wd → Option (Int32 × Wd)) : Nat → Int32 → Wd → Option (Int32 × Wd)
  | 0, _, _ => none
  | n + 1, x4, w =>
    if ib x2 52 then
      if (w q0 x2.toNatClampNeg) ≤ x4 then
        kx44 w
      else
      if ib ((x2 + x4) + (nI 1)) 52 then
        if ib (x2 + x4) 52 then
        lt (wset w q0 (x2 + x4).toNatClampNeg (w q0 ((x2 + x4) + (nI 1)).toNatClampNeg)) fun w4 =>
          (m_L_take_L16 q0 x2 x3 kx44 n) (x4 + (nI 1)) w4
        else none
      else none
    else none
def m_L_take (q0 : Nat) (x1 : Int32) (w : Wd) : Option (Int32 × Wd) :=
  lt (((nI 13) * (x1 - (nI 1)))) fun x2_1 =>
  if ib (x2_1 + (nI 1)) 52 then
    lt ((w q0 (x2_1 + (nI 1)).toNatClampNeg)) fun x3_3 =>
    m_L_take_L16 q0 x2_1 x3_3 (fun w4 =>
      if ib x2_1 52 then
        if ib x2_1 52 then
        lt (wset w4 q0 x2_1.toNatClampNeg ((w4 q0 x2_1.toNatClampNeg) - (nI 1))) fun w7 =>
          some (x3_3, w7)
        else none
      else none) FU (nI 1) w
  else none
def m_L_shown (x0 : Int32) : Option (Int32) :=
  some (((nI 100) * (x0 / (nI 16))) + (x0 - x0 / (nI 16) * (nI 16)))
def m_L_has_j69 (q0 : Nat) (q1 : Nat) (x2 : Int32) (x3 : Int32) (x5 : Int32) (x6 : Int32) (s0 : Int32) (w : Wd) (kc : Int32 → Int32 → Option (Int32)) : Option (Int32) :=
kc s0 (x6 + (nI 1))
def m_L_has_j64 (q0 : Nat) (q1 : Nat) (x2 : Int32) (x3 : Int32) (x5 : Int32) (x6 : Int32) (w : Wd) (kc : Int32 → Int32 → Option (Int32)) : Option (Int32) :=
m_L_has_j69 q0 q1 x2 x3 x5 x6 (nI 1) w kc
def m_L_has_j60 (q0 : Nat) (q1 : Nat) (x2 : Int32) (x3 : Int32) (x5 : Int32) (x6 : Int32) (s0 : Int32) (w : Wd) (kc : Int32 → Int32 → Option (Int32)) : Option (Int32) :=
if ¬ s0 = x3 then
  m_L_has_j69 q0 q1 x2 x3 x5 x6 (nI 0) w kc
else
m_L_has_j64 q0 q1 x2 x3 x5 x6 w kc
def m_L_has_L26 (q0 : Nat) (q1 : Nat) (x2 : Int32) (x3 : Int32) (x5 : Int32) (w : Wd) : Nat → Int32 → Int32 → Option (Int32)
  | 0, _, _ => none
  | n + 1, x4, x6 =>
    if x5 < x6 then
      some (x4 &&& 1)
    else
    if ¬ x4 = 0 then
      m_L_has_j64 q0 q1 x2 x3 x5 x6 w (m_L_has_L26 q0 q1 x2 x3 x5 w n)
    else
    if ¬ x2 = 0 then
      if ib (((nI 13) * (x2 - (nI 1))) + x6) 52 then
        m_L_has_j60 q0 q1 x2 x3 x5 x6 (w q0 (((nI 13) * (x2 - (nI 1))) + x6).toNatClampNeg) w (m_L_has_L26 q0 q1 x2 x3 x5 w n)
      else none
    else
    if ib x6 50 then
      m_L_has_j60 q0 q1 x2 x3 x5 x6 (w q1 x6.toNatClampNeg) w (m_L_has_L26 q0 q1 x2 x3 x5 w n)
    else none
def m_L_has_j21 (q0 : Nat) (q1 : Nat) (x2 : Int32) (x3 : Int32) (x4 : Int32) (s0 : Int32) (w : Wd) : Option (Int32) :=
m_L_has_L26 q0 q1 x2 x3 s0 w FU x4 (nI 1)
def m_L_has (q0 : Nat) (q1 : Nat) (x2 : Int32) (x3 : Int32) (w : Wd) : Option (Int32) :=
  if ¬ x2 = 0 then
    if ib ((nI 13) * (x2 - (nI 1))) 52 then
      m_L_has_j21 q0 q1 x2 x3 (nI 0) (w q0 ((nI 13) * (x2 - (nI 1))).toNatClampNeg) w
    else none
  else
  if ib (nI 0) 50 then
    m_L_has_j21 q0 q1 x2 x3 (nI 0) (w q1 (nI 0).toNatClampNeg) w
  else none
/-- what a call of the class leaves, the law's rows as they were -/
def wj (w1 w : Wd) : Wd := fun k => if k < 490 then w1 k else w k
def m_L_keep_L61 (N : Nat) (q8 : Nat) (q10 : Nat) (x6 : Int32) (x7 : Int32) (x9 : Int32) (kx88 : Wd → Option (Wd)) : Nat → Int32 → Wd → Option (Wd)
  | 0, _, _ => none
  | n + 1, x11, w =>
    if x9 ≤ x11 then
      kx88 w
    else
    if ib ((x7 + (nI 1)) + x11) 52 then
      if ib x11 14 then
      lt (wset w q10 x11.toNatClampNeg (w 495 ((x7 + (nI 1)) + x11).toNatClampNeg)) fun w3 =>
        (m_L_keep_L61 N q8 q10 x6 x7 x9 kx88 n) (x11 + (nI 1)) w3
      else none
    else none
def m_L_keep_j212 (N : Nat) (q10 : Nat) (x7 : Int32) (x9 : Int32) (x11 : Int32) (x12 : Int32) (w : Wd) (kc : Int32 → Wd → Option (Wd)) : Option (Wd) :=
kc (x12 + (nI 1)) w
def m_L_keep_L176 (N : Nat) (q10 : Nat) (x7 : Int32) (x9 : Int32) (x11 : Int32) : Nat → Int32 → Wd → Option (Wd)
  | 0, _, _ => none
  | n + 1, x12, w =>
    if x9 ≤ x12 then
      some w
    else
    if x12 = x11 then
      m_L_keep_j212 N q10 x7 x9 x11 x12 w (m_L_keep_L176 N q10 x7 x9 x11 n)
    else
    if ib x7 52 then
      if ib x7 52 then
      lt (wset w 495 x7.toNatClampNeg ((w 495 x7.toNatClampNeg) + (nI 1))) fun w3 =>
        if ib x7 52 then
          if ib x12 14 then
            if ib (x7 + (w3 495 x7.toNatClampNeg)) 52 then
            lt (wset w3 495 (x7 + (w3 495 x7.toNatClampNeg)).toNatClampNeg (w3 q10 x12.toNatClampNeg)) fun w7 =>
              m_L_keep_j212 N q10 x7 x9 x11 x12 w7 (m_L_keep_L176 N q10 x7 x9 x11 n)
            else none
          else none
        else none
      else none
    else none
def m_L_keep_j168 (N : Nat) (q10 : Nat) (x7 : Int32) (x9 : Int32) (x11 : Int32) (w : Wd) : Option (Wd) :=
if ib x7 52 then
lt (wset w 495 x7.toNatClampNeg (nI 0)) fun w2 =>
  m_L_keep_L176 N q10 x7 x9 x11 FU (nI 0) w2
else none
def m_L_keep_j152 (N : Nat) (q8 : Nat) (q10 : Nat) (x7 : Int32) (x9 : Int32) (x12 : Int32) (s0 : Int32) (w : Wd) (kc : Int32 → Int32 → Wd → Option (Wd)) (kx160 : Int32 → Wd → Option (Wd)) : Option (Wd) :=
kc s0 (x12 + (-1 : Int32)) w
def m_L_keep_L118 (N : Nat) (q8 : Nat) (q10 : Nat) (x7 : Int32) (x9 : Int32) (kx160 : Int32 → Wd → Option (Wd)) : Nat → Int32 → Int32 → Wd → Option (Wd)
  | 0, _, _, _ => none
  | n + 1, x11, x12, w =>
    if x12 < 0 then
      kx160 x11 w
    else
    if ib x12 14 then
      if ib x12 14 then
        if ib ((w q10 x12.toNatClampNeg) / (nI 16)) 4 then
          if (w q8 ((w q10 x12.toNatClampNeg) / (nI 16)).toNatClampNeg) < ((w q10 x12.toNatClampNeg) - (w q10 x12.toNatClampNeg) / (nI 16) * (nI 16)) then
            m_L_keep_j152 N q8 q10 x7 x9 x12 x11 w (m_L_keep_L118 N q8 q10 x7 x9 kx160 n) kx160
          else
          m_L_keep_j152 N q8 q10 x7 x9 x12 x12 w (m_L_keep_L118 N q8 q10 x7 x9 kx160 n) kx160
        else none
      else none
    else none
def m_L_keep (N : Nat) (x5 : Int32) (x6 : Int32) (w : Wd) : Option (Wd) :=
  if ¬ x5 = 0 then
    lt (((nI 13) * (x5 - (nI 1)))) fun x7_1 =>
    lt (va_up w N (fun _ => 0)) fun w2 =>
    (m_L_serve 491 492 N x5 w2).bind fun o3 =>
    if ib x7_1 52 then
      lt ((o3 495 x7_1.toNatClampNeg)) fun x9_5 =>
      lt (va_up o3 (N + 1) (fun _ => 0)) fun w6 =>
      m_L_keep_L61 (N + 1 + 1) N (N + 1) x6 x7_1 x9_5 (fun w7 =>
        if ib x9_5 14 then
        lt (wset w7 (N + 1) x9_5.toNatClampNeg x6) fun w9 =>
          if ib (nI 2) 24 then
            if (x9_5 + (nI 1)) ≤ (w9 490 (nI 2).toNatClampNeg) then
              m_L_keep_j168 (N + 1 + 1) (N + 1) x7_1 (x9_5 + (nI 1)) (-1 : Int32) w9
            else
            lt (((x9_5 + (nI 1)) - (nI 1))) fun x12_11 =>
            m_L_keep_L118 (N + 1 + 1) N (N + 1) x7_1 (x9_5 + (nI 1)) (fun x11_12 w13 =>
              if ib (nI 6) 24 then
                if ib (nI 6) 24 then
                lt (wset w13 490 (nI 6).toNatClampNeg ((w13 490 (nI 6).toNatClampNeg) + (nI 1))) fun w16 =>
                  m_L_keep_j168 (N + 1 + 1) (N + 1) x7_1 (x9_5 + (nI 1)) x11_12 w16
                else none
              else none) FU (nI 0) x12_11 w9
          else none
        else none) FU (nI 0) w6
    else none
  else
  if ib (nI 0) 50 then
    if ib (nI 0) 50 then
    lt (wset w 496 (nI 0).toNatClampNeg ((w 496 (nI 0).toNatClampNeg) + (nI 1))) fun w19 =>
      if ib (nI 0) 50 then
        if ib (w19 496 (nI 0).toNatClampNeg) 50 then
        lt (wset w19 496 (w19 496 (nI 0).toNatClampNeg).toNatClampNeg x6) fun w22 =>
          some w22
        else none
      else none
    else none
  else none
def m_L_arrive_j165 (N : Nat) (x7 : Int32) (x8 : Int32) (x9 : Int32) (x12 : Int32) (w : Wd) (kc : Int32 → Wd → Option (Int32 × Wd)) : Option (Int32 × Wd) :=
kc (x12 + (nI 1)) w
def m_L_arrive_L128 (N : Nat) (x7 : Int32) (x8 : Int32) (x9 : Int32) : Nat → Int32 → Wd → Option (Int32 × Wd)
  | 0, _, _ => none
  | n + 1, x12, w =>
    if ib (nI 0) 24 then
      if (w 490 (nI 0).toNatClampNeg) ≤ x12 then
        some ((nI 1), w)
      else
      if ib ((nI 8) + x12) 24 then
        if ¬ (w 490 ((nI 8) + x12).toNatClampNeg) = x7 then
          m_L_arrive_j165 N x7 x8 x9 x12 w (m_L_arrive_L128 N x7 x8 x9 n)
        else
        if x12 = x9 then
          m_L_arrive_j165 N x7 x8 x9 x12 w (m_L_arrive_L128 N x7 x8 x9 n)
        else
        (m_L_put 490 494 x12 x8 w).bind fun o3 =>
        m_L_arrive_j165 N x7 x8 x9 x12 o3 (m_L_arrive_L128 N x7 x8 x9 n)
      else none
    else none
def m_L_arrive_j125 (N : Nat) (x7 : Int32) (x8 : Int32) (x9 : Int32) (w : Wd) : Option (Int32 × Wd) :=
m_L_arrive_L128 N x7 x8 x9 FU (nI 1) w
def m_L_arrive_j85 (N : Nat) (x7 : Int32) (x8 : Int32) (x9 : Int32) (w : Wd) : Option (Int32 × Wd) :=
(m_L_keep N x7 x8 w).bind fun o1 =>
if x7 ≤ 0 then
  m_L_arrive_j125 N x7 x8 x9 o1
else
if ib ((nI 8) + x7) 24 then
  if (o1 490 ((nI 8) + x7).toNatClampNeg) = x9 then
    m_L_arrive_j125 N x7 x8 x9 o1
  else
  (m_L_put 490 493 x7 x8 o1).bind fun o3 =>
  m_L_arrive_j125 N x7 x8 x9 o3
else none
def m_L_arrive (N : Nat) (x7 : Int32) (x8 : Int32) (x9 : Int32) (w : Wd) : Option (Int32 × Wd) :=
  lt ((((nI 4) * x7) + (x8 / (nI 16)))) fun x10_1 =>
  if ib x10_1 32 then
    lt ((w 491 x10_1.toNatClampNeg)) fun x11_3 =>
    if ¬ ((x11_3 >>> ((x8 - x8 / (nI 16) * (nI 16)) &&& 31)) &&& (nI 1)) = (nI 1) then
      if ib x10_1 32 then
      lt (wset w 491 x10_1.toNatClampNeg (x11_3 ||| ((nI 1) <<< ((x8 - x8 / (nI 16) * (nI 16)) &&& 31)))) fun w5 =>
        if x9 < 0 then
          m_L_arrive_j85 N x7 x8 x9 w5
        else
        if x7 ≤ 0 then
          m_L_arrive_j85 N x7 x8 x9 w5
        else
        (m_L_ranges 491 x7 w5).bind fun o6 =>
        if ib (nI 1) 24 then
          if o6 ≤ (w5 490 (nI 1).toNatClampNeg) then
            m_L_arrive_j85 N x7 x8 x9 w5
          else
          if ib x10_1 32 then
          lt (wset w5 491 x10_1.toNatClampNeg x11_3) fun w9 =>
            if ib (nI 3) 24 then
              if ib (nI 3) 24 then
              lt (wset w9 490 (nI 3).toNatClampNeg ((w9 490 (nI 3).toNatClampNeg) + (nI 1))) fun w12 =>
                some ((-1 : Int32), w12)
              else none
            else none
          else none
        else none
      else none
    else
    some ((nI 0), w)
  else none
def m_L_isSo_j335 (N : Nat) (q10 : Nat) (x8 : Int32) (x11 : Int32) (x12 : Int32) (x13 : Int32) (x14 : Int32) (x15 : Int32) (x16 : Int32) (s0 : Int32) (w : Wd) (kc : Int32 → Int32 → Int32 → Wd → Option (Int32 × Wd)) (kx343 : Int32 → Int32 → Wd → Option (Int32 × Wd)) : Option (Int32 × Wd) :=
kc s0 x14 (x16 + (nI 1)) w
def m_L_isSo_j330 (N : Nat) (q10 : Nat) (x8 : Int32) (x11 : Int32) (x12 : Int32) (x13 : Int32) (x14 : Int32) (x15 : Int32) (x16 : Int32) (w : Wd) (kc : Int32 → Int32 → Int32 → Wd → Option (Int32 × Wd)) (kx343 : Int32 → Int32 → Wd → Option (Int32 × Wd)) : Option (Int32 × Wd) :=
m_L_isSo_j335 N q10 x8 x11 x12 x13 x14 x15 x16 (nI 1) w kc kx343
def m_L_isSo_j261 (N : Nat) (q10 : Nat) (x8 : Int32) (x11 : Int32) (x12 : Int32) (x13 : Int32) (x15 : Int32) (x16 : Int32) (x17 : Int32) (s0 : Int32) (s1 : Int32) (w : Wd) (kc : Int32 → Int32 → Int32 → Wd → Option (Int32 × Wd)) (kx343 : Int32 → Int32 → Wd → Option (Int32 × Wd)) : Option (Int32 × Wd) :=
lt ((s0 + s1)) fun x14_1 =>
(m_X7_status x12 x15 x16 w).bind fun o2 =>
lt (wj o2.2 w) fun w3 =>
if ¬ x17 = 0 then
  if ib x15 4 then
    if x16 ≤ (w3 q10 x15.toNatClampNeg) then
      if o2.1 = (nI 2) then
        m_L_isSo_j330 N q10 x8 x11 x12 x13 x14_1 x15 x16 w3 kc kx343
      else
      if ¬ o2.1 = (nI 3) then
        m_L_isSo_j335 N q10 x8 x11 x12 x13 x14_1 x15 x16 (nI 0) w3 kc kx343
      else
      m_L_isSo_j330 N q10 x8 x11 x12 x13 x14_1 x15 x16 w3 kc kx343
    else
    if ¬ o2.1 = (nI 1) then
      m_L_isSo_j335 N q10 x8 x11 x12 x13 x14_1 x15 x16 (nI 0) w3 kc kx343
    else
    m_L_isSo_j335 N q10 x8 x11 x12 x13 x14_1 x15 x16 (nI 1) w3 kc kx343
  else none
else
if ¬ o2.1 = 0 then
  m_L_isSo_j335 N q10 x8 x11 x12 x13 x14_1 x15 x16 (nI 0) w3 kc kx343
else
m_L_isSo_j335 N q10 x8 x11 x12 x13 x14_1 x15 x16 (nI 1) w3 kc kx343
def m_L_isSo_j247 (N : Nat) (q10 : Nat) (x8 : Int32) (x11 : Int32) (x12 : Int32) (x13 : Int32) (x14 : Int32) (x15 : Int32) (x16 : Int32) (s0 : Int32) (w : Wd) (kc : Int32 → Int32 → Int32 → Wd → Option (Int32 × Wd)) (kx343 : Int32 → Int32 → Wd → Option (Int32 × Wd)) : Option (Int32 × Wd) :=
if s0 = 0 then
  m_L_isSo_j261 N q10 x8 x11 x12 x13 x15 x16 s0 x14 (nI 0) w kc kx343
else
m_L_isSo_j261 N q10 x8 x11 x12 x13 x15 x16 s0 x14 (nI 1) w kc kx343
def m_L_isSo_L207 (N : Nat) (q10 : Nat) (x8 : Int32) (x11 : Int32) (x12 : Int32) (x13 : Int32) (x15 : Int32) (kx343 : Int32 → Int32 → Wd → Option (Int32 × Wd)) : Nat → Int32 → Int32 → Int32 → Wd → Option (Int32 × Wd)
  | 0, _, _, _, _ => none
  | n + 1, x9, x14, x16, w =>
    if ib ((nI 20) + x15) 24 then
      if (w 490 ((nI 20) + x15).toNatClampNeg) < x16 then
        kx343 x9 x14 w
      else
      if x9 = 0 then
        kx343 x9 x14 w
      else
      if ib (((nI 4) * x12) + x15) 32 then
        if ¬ (((w 491 (((nI 4) * x12) + x15).toNatClampNeg) >>> (x16 &&& 31)) &&& (nI 1)) = (nI 1) then
          m_L_isSo_j247 N q10 x8 x11 x12 x13 x14 x15 x16 (nI 0) w (m_L_isSo_L207 N q10 x8 x11 x12 x13 x15 kx343 n) kx343
        else
        m_L_isSo_j247 N q10 x8 x11 x12 x13 x14 x15 x16 (nI 1) w (m_L_isSo_L207 N q10 x8 x11 x12 x13 x15 kx343 n) kx343
      else none
    else none
def m_L_isSo_j343 (N : Nat) (q10 : Nat) (x8 : Int32) (x9 : Int32) (x11 : Int32) (x12 : Int32) (x13 : Int32) (x14 : Int32) (x15 : Int32) (w : Wd) (kc : Int32 → Int32 → Int32 → Int32 → Wd → Option (Int32 × Wd)) (kx349 : Int32 → Int32 → Int32 → Wd → Option (Int32 × Wd)) : Option (Int32 × Wd) :=
kc x9 x13 x14 (x15 + (nI 1)) w
def m_L_isSo_j192 (N : Nat) (q10 : Nat) (x8 : Int32) (x11 : Int32) (x12 : Int32) (x13 : Int32) (x14 : Int32) (x15 : Int32) (s0 : Int32) (w : Wd) (kc : Int32 → Int32 → Int32 → Int32 → Wd → Option (Int32 × Wd)) (kx349 : Int32 → Int32 → Int32 → Wd → Option (Int32 × Wd)) : Option (Int32 × Wd) :=
if ib x15 4 then
  lt ((x13 + (w q10 x15.toNatClampNeg))) fun x13_2 =>
  m_L_isSo_L207 N q10 x8 x11 x12 x13_2 x15 (fun x9_3 x14_4 w5 =>
    m_L_isSo_j343 N q10 x8 x9_3 x11 x12 x13_2 x14_4 x15 w5 kc kx349) FU s0 x14 (nI 1) w
else none
def m_L_isSo_L160 (N : Nat) (q10 : Nat) (x8 : Int32) (x11 : Int32) (x12 : Int32) (kx349 : Int32 → Int32 → Int32 → Wd → Option (Int32 × Wd)) : Nat → Int32 → Int32 → Int32 → Int32 → Wd → Option (Int32 × Wd)
  | 0, _, _, _, _, _ => none
  | n + 1, x9, x13, x14, x15, w =>
    if (nI 4) ≤ x15 then
      kx349 x9 x13 x14 w
    else
    if x9 = 0 then
      kx349 x9 x13 x14 w
    else
    (m_X7_served x12 x15 w).bind fun o1 =>
    lt (wj o1.2 w) fun w2 =>
    if ib x15 4 then
      if ¬ o1.1 = (w2 q10 x15.toNatClampNeg) then
        m_L_isSo_j192 N q10 x8 x11 x12 x13 x14 x15 (nI 0) w2 (m_L_isSo_L160 N q10 x8 x11 x12 kx349 n) kx349
      else
      m_L_isSo_j192 N q10 x8 x11 x12 x13 x14 x15 (nI 1) w2 (m_L_isSo_L160 N q10 x8 x11 x12 kx349 n) kx349
    else none
def m_L_isSo_j555 (N : Nat) (q10 : Nat) (x8 : Int32) (x11 : Int32) (x12 : Int32) (x15 : Int32) (x16 : Int32) (s0 : Int32) (w : Wd) (kc : Int32 → Int32 → Wd → Option (Int32 × Wd)) (kx563 : Int32 → Wd → Option (Int32 × Wd)) : Option (Int32 × Wd) :=
kc s0 (x16 + (nI 1)) w
def m_L_isSo_j554 (N : Nat) (q10 : Nat) (x8 : Int32) (x11 : Int32) (x12 : Int32) (x15 : Int32) (x16 : Int32) (w : Wd) (kc : Int32 → Int32 → Wd → Option (Int32 × Wd)) (kx563 : Int32 → Wd → Option (Int32 × Wd)) : Option (Int32 × Wd) :=
m_L_isSo_j555 N q10 x8 x11 x12 x15 x16 (nI 0) w kc kx563
def m_L_isSo_j550 (N : Nat) (q10 : Nat) (x8 : Int32) (x11 : Int32) (x12 : Int32) (x15 : Int32) (x16 : Int32) (w : Wd) (kc : Int32 → Int32 → Wd → Option (Int32 × Wd)) (kx563 : Int32 → Wd → Option (Int32 × Wd)) : Option (Int32 × Wd) :=
m_L_isSo_j555 N q10 x8 x11 x12 x15 x16 (nI 1) w kc kx563
def m_L_isSo_j496 (N : Nat) (q10 : Nat) (x8 : Int32) (x11 : Int32) (x12 : Int32) (x15 : Int32) (x16 : Int32) (s0 : Int32) (w : Wd) (kc : Int32 → Int32 → Wd → Option (Int32 × Wd)) (kx563 : Int32 → Wd → Option (Int32 × Wd)) : Option (Int32 × Wd) :=
(m_X7_kept x12 x16 w).bind fun o1 =>
(m_L_shown s0).bind fun o2 =>
if ¬ o1 = o2 then
  m_L_isSo_j554 N q10 x8 x11 x12 x15 x16 w kc kx563
else
if ib (s0 / (nI 16)) 4 then
  if (w q10 (s0 / (nI 16)).toNatClampNeg) < (s0 - s0 / (nI 16) * (nI 16)) then
    m_L_isSo_j550 N q10 x8 x11 x12 x15 x16 w kc kx563
  else
  (m_X7_status x12 (s0 / (nI 16)) (s0 - s0 / (nI 16) * (nI 16)) w).bind fun o4 =>
  lt (wj o4.2 w) fun w5 =>
  if ¬ o4.1 = (nI 3) then
    m_L_isSo_j554 N q10 x8 x11 x12 x15 x16 w5 kc kx563
  else
  m_L_isSo_j550 N q10 x8 x11 x12 x15 x16 w5 kc kx563
else none
def m_L_isSo_L454 (N : Nat) (q10 : Nat) (x8 : Int32) (x11 : Int32) (x12 : Int32) (x15 : Int32) (kx563 : Int32 → Wd → Option (Int32 × Wd)) : Nat → Int32 → Int32 → Wd → Option (Int32 × Wd)
  | 0, _, _, _ => none
  | n + 1, x9, x16, w =>
    if x15 ≤ x16 then
      kx563 x9 w
    else
    if x9 = 0 then
      kx563 x9 w
    else
    if ¬ x12 = 0 then
      if ib ((((nI 13) * (x12 - (nI 1))) + (nI 1)) + x16) 52 then
        m_L_isSo_j496 N q10 x8 x11 x12 x15 x16 (w 495 ((((nI 13) * (x12 - (nI 1))) + (nI 1)) + x16).toNatClampNeg) w (m_L_isSo_L454 N q10 x8 x11 x12 x15 kx563 n) kx563
      else none
    else
    if ib ((nI 1) + x16) 50 then
      m_L_isSo_j496 N q10 x8 x11 x12 x15 x16 (w 496 ((nI 1) + x16).toNatClampNeg) w (m_L_isSo_L454 N q10 x8 x11 x12 x15 kx563 n) kx563
    else none
def m_L_isSo_j695 (N : Nat) (q10 : Nat) (q17 : Nat) (x8 : Int32) (x11 : Int32) (x12 : Int32) (x16 : Int32) (x18 : Int32) (x19 : Int32) (s0 : Int32) (w : Wd) (kc : Int32 → Int32 → Wd → Option (Int32 × Wd)) (kx703 : Int32 → Wd → Option (Int32 × Wd)) : Option (Int32 × Wd) :=
kc s0 (x19 + (nI 1)) w
def m_L_isSo_j694 (N : Nat) (q10 : Nat) (q17 : Nat) (x8 : Int32) (x11 : Int32) (x12 : Int32) (x16 : Int32) (x18 : Int32) (x19 : Int32) (w : Wd) (kc : Int32 → Int32 → Wd → Option (Int32 × Wd)) (kx703 : Int32 → Wd → Option (Int32 × Wd)) : Option (Int32 × Wd) :=
m_L_isSo_j695 N q10 q17 x8 x11 x12 x16 x18 x19 (nI 0) w kc kx703
def m_L_isSo_L647 (N : Nat) (q10 : Nat) (q17 : Nat) (x8 : Int32) (x11 : Int32) (x12 : Int32) (x16 : Int32) (x18 : Int32) (kx703 : Int32 → Wd → Option (Int32 × Wd)) : Nat → Int32 → Int32 → Wd → Option (Int32 × Wd)
  | 0, _, _, _ => none
  | n + 1, x9, x19, w =>
    if x18 ≤ x19 then
      kx703 x9 w
    else
    if x9 = 0 then
      m_L_isSo_j694 N q10 q17 x8 x11 x12 x16 x18 x19 w (m_L_isSo_L647 N q10 q17 x8 x11 x12 x16 x18 kx703 n) kx703
    else
    (m_X7_queued x12 x16 x19 w).bind fun o1 =>
    if ib ((((nI 13) * (x12 - (nI 1))) + (nI 1)) + x19) 52 then
      (m_L_shown (w q17 ((((nI 13) * (x12 - (nI 1))) + (nI 1)) + x19).toNatClampNeg)).bind fun o3 =>
      if ¬ o1 = o3 then
        m_L_isSo_j694 N q10 q17 x8 x11 x12 x16 x18 x19 w (m_L_isSo_L647 N q10 q17 x8 x11 x12 x16 x18 kx703 n) kx703
      else
      m_L_isSo_j695 N q10 q17 x8 x11 x12 x16 x18 x19 (nI 1) w (m_L_isSo_L647 N q10 q17 x8 x11 x12 x16 x18 kx703 n) kx703
    else none
def m_L_isSo_j642 (N : Nat) (q10 : Nat) (q17 : Nat) (x8 : Int32) (x11 : Int32) (x12 : Int32) (x16 : Int32) (x18 : Int32) (s0 : Int32) (w : Wd) (kc : Int32 → Int32 → Wd → Option (Int32 × Wd)) (kx709 : Int32 → Wd → Option (Int32 × Wd)) : Option (Int32 × Wd) :=
m_L_isSo_L647 N q10 q17 x8 x11 x12 x16 x18 (fun x9_1 w2 =>
  kc x9_1 (x16 + (nI 1)) w2) FU s0 (nI 0) w
def m_L_isSo_j641 (N : Nat) (q10 : Nat) (q17 : Nat) (x8 : Int32) (x11 : Int32) (x12 : Int32) (x16 : Int32) (x18 : Int32) (w : Wd) (kc : Int32 → Int32 → Wd → Option (Int32 × Wd)) (kx709 : Int32 → Wd → Option (Int32 × Wd)) : Option (Int32 × Wd) :=
m_L_isSo_j642 N q10 q17 x8 x11 x12 x16 x18 (nI 0) w kc kx709
def m_L_isSo_j594 (N : Nat) (q10 : Nat) (r0 : Nat) (x8 : Int32) (x11 : Int32) (x12 : Int32) (x16 : Int32) (w : Wd) (kc : Int32 → Int32 → Wd → Option (Int32 × Wd)) (kx709 : Int32 → Wd → Option (Int32 × Wd)) : Option (Int32 × Wd) :=
if ib ((nI 13) * (x12 - (nI 1))) 52 then
  lt ((w r0 ((nI 13) * (x12 - (nI 1))).toNatClampNeg)) fun x18_2 =>
  (m_X7_queued x12 x16 (-1 : Int32) w).bind fun o3 =>
  if ¬ o3 = x18_2 then
    m_L_isSo_j641 N q10 r0 x8 x11 x12 x16 x18_2 w kc kx709
  else
  (m_X7_queued x12 x16 x18_2 w).bind fun o4 =>
  if ¬ o4 = (-9 : Int32) then
    m_L_isSo_j641 N q10 r0 x8 x11 x12 x16 x18_2 w kc kx709
  else
  m_L_isSo_j642 N q10 r0 x8 x11 x12 x16 x18_2 (nI 1) w kc kx709
else none
def m_L_isSo_L566 (N : Nat) (q10 : Nat) (x8 : Int32) (x11 : Int32) (x12 : Int32) (kx709 : Int32 → Wd → Option (Int32 × Wd)) : Nat → Int32 → Int32 → Wd → Option (Int32 × Wd)
  | 0, _, _, _ => none
  | n + 1, x9, x16, w =>
    if (nI 2) ≤ x16 then
      kx709 x9 w
    else
    if x12 ≤ 0 then
      kx709 x9 w
    else
    if x9 = 0 then
      kx709 x9 w
    else
    if ¬ x16 = 0 then
      m_L_isSo_j594 N q10 494 x8 x11 x12 x16 w (m_L_isSo_L566 N q10 x8 x11 x12 kx709 n) kx709
    else
    m_L_isSo_j594 N q10 493 x8 x11 x12 x16 w (m_L_isSo_L566 N q10 x8 x11 x12 kx709 n) kx709
def m_L_isSo_j709 (N : Nat) (q10 : Nat) (x8 : Int32) (x9 : Int32) (x11 : Int32) (x12 : Int32) (w : Wd) (kc : Int32 → Int32 → Int32 → Wd → Option (Int32 × Wd)) (kx715 : Int32 → Int32 → Wd → Option (Int32 × Wd)) : Option (Int32 × Wd) :=
kc x9 x11 (x12 + (nI 1)) w
def m_L_isSo_j563 (N : Nat) (q10 : Nat) (x8 : Int32) (x9 : Int32) (x11 : Int32) (x12 : Int32) (w : Wd) (kc : Int32 → Int32 → Int32 → Wd → Option (Int32 × Wd)) (kx715 : Int32 → Int32 → Wd → Option (Int32 × Wd)) : Option (Int32 × Wd) :=
m_L_isSo_L566 N q10 x8 x11 x12 (fun x9_1 w2 =>
  m_L_isSo_j709 N q10 x8 x9_1 x11 x12 w2 kc kx715) FU x9 (nI 0) w
def m_L_isSo_j449 (N : Nat) (q10 : Nat) (x8 : Int32) (x11 : Int32) (x12 : Int32) (x15 : Int32) (s0 : Int32) (w : Wd) (kc : Int32 → Int32 → Int32 → Wd → Option (Int32 × Wd)) (kx715 : Int32 → Int32 → Wd → Option (Int32 × Wd)) : Option (Int32 × Wd) :=
m_L_isSo_L454 N q10 x8 x11 x12 x15 (fun x9_1 w2 =>
  m_L_isSo_j563 N q10 x8 x9_1 x11 x12 w2 kc kx715) FU s0 (nI 0) w
def m_L_isSo_j448 (N : Nat) (q10 : Nat) (x8 : Int32) (x11 : Int32) (x12 : Int32) (x15 : Int32) (w : Wd) (kc : Int32 → Int32 → Int32 → Wd → Option (Int32 × Wd)) (kx715 : Int32 → Int32 → Wd → Option (Int32 × Wd)) : Option (Int32 × Wd) :=
m_L_isSo_j449 N q10 x8 x11 x12 x15 (nI 0) w kc kx715
def m_L_isSo_j388 (N : Nat) (q10 : Nat) (x8 : Int32) (x9 : Int32) (x11 : Int32) (x12 : Int32) (x13 : Int32) (x14 : Int32) (s0 : Int32) (w : Wd) (kc : Int32 → Int32 → Int32 → Wd → Option (Int32 × Wd)) (kx715 : Int32 → Int32 → Wd → Option (Int32 × Wd)) : Option (Int32 × Wd) :=
if x9 = 0 then
  m_L_isSo_j448 N q10 x8 x11 x12 s0 w kc kx715
else
(m_X7_proxy x12 (nI 3) w).bind fun o1 =>
lt (wj o1.2 w) fun w2 =>
if ¬ o1.1 = x14 then
  m_L_isSo_j448 N q10 x8 x11 x12 s0 w2 kc kx715
else
(m_X7_proxy x12 (nI 4) w2).bind fun o3 =>
lt (wj o3.2 w2) fun w4 =>
if ¬ o3.1 = x13 then
  m_L_isSo_j448 N q10 x8 x11 x12 s0 w4 kc kx715
else
(m_X7_proxy x12 (nI 5) w4).bind fun o5 =>
lt (wj o5.2 w4) fun w6 =>
if ¬ o5.1 = s0 then
  m_L_isSo_j448 N q10 x8 x11 x12 s0 w6 kc kx715
else
(m_X7_kept x12 s0 w6).bind fun o7 =>
if ¬ o7 = (-9 : Int32) then
  m_L_isSo_j448 N q10 x8 x11 x12 s0 w6 kc kx715
else
m_L_isSo_j449 N q10 x8 x11 x12 s0 (nI 1) w6 kc kx715
def m_L_isSo_j363 (N : Nat) (q10 : Nat) (x8 : Int32) (x9 : Int32) (x12 : Int32) (x13 : Int32) (x14 : Int32) (s0 : Int32) (s1 : Int32) (w : Wd) (kc : Int32 → Int32 → Int32 → Wd → Option (Int32 × Wd)) (kx715 : Int32 → Int32 → Wd → Option (Int32 × Wd)) : Option (Int32 × Wd) :=
lt ((s0 + s1)) fun x11_1 =>
if ¬ x12 = 0 then
  if ib ((nI 13) * (x12 - (nI 1))) 52 then
    m_L_isSo_j388 N q10 x8 x9 x11_1 x12 x13 x14 (w 495 ((nI 13) * (x12 - (nI 1))).toNatClampNeg) w kc kx715
  else none
else
if ib (nI 0) 50 then
  m_L_isSo_j388 N q10 x8 x9 x11_1 x12 x13 x14 (w 496 (nI 0).toNatClampNeg) w kc kx715
else none
def m_L_isSo_j349 (N : Nat) (q10 : Nat) (x8 : Int32) (x9 : Int32) (x11 : Int32) (x12 : Int32) (x13 : Int32) (x14 : Int32) (w : Wd) (kc : Int32 → Int32 → Int32 → Wd → Option (Int32 × Wd)) (kx715 : Int32 → Int32 → Wd → Option (Int32 × Wd)) : Option (Int32 × Wd) :=
if ¬ x13 = x8 then
  m_L_isSo_j363 N q10 x8 x9 x12 x13 x14 x11 (nI 0) w kc kx715
else
m_L_isSo_j363 N q10 x8 x9 x12 x13 x14 x11 (nI 1) w kc kx715
def m_L_isSo_L129 (N : Nat) (q10 : Nat) (x8 : Int32) (kx715 : Int32 → Int32 → Wd → Option (Int32 × Wd)) : Nat → Int32 → Int32 → Int32 → Wd → Option (Int32 × Wd)
  | 0, _, _, _, _ => none
  | n + 1, x9, x11, x12, w =>
    if ib (nI 0) 24 then
      if (w 490 (nI 0).toNatClampNeg) ≤ x12 then
        kx715 x9 x11 w
      else
      if x9 = 0 then
        kx715 x9 x11 w
      else
      (m_L_serve 491 492 q10 x12 w).bind fun o2 =>
      m_L_isSo_L160 N q10 x8 x11 x12 (fun x9_3 x13_4 x14_5 w6 =>
        m_L_isSo_j349 N q10 x8 x9_3 x11 x12 x13_4 x14_5 w6 (m_L_isSo_L129 N q10 x8 kx715 n) kx715) FU x9 (nI 0) (nI 0) (nI 0) o2
    else none
def m_L_isSo_j715 (N : Nat) (x9 : Int32) (x11 : Int32) (w : Wd) : Option (Int32 × Wd) :=
if x9 = 0 then
  some ((nI 0), w)
else
(m_X7_upToDate w).bind fun o1 =>
lt (wj o1.2 w) fun w2 =>
if ¬ o1.1 = x11 then
  some ((nI 0), w2)
else
some ((nI 1), w2)
def m_L_isSo_j116 (N : Nat) (x8 : Int32) (s0 : Int32) (w : Wd) : Option (Int32 × Wd) :=
lt (va_up w N (fun _ => 0)) fun w1 =>
m_L_isSo_L129 (N + 1) N x8 (fun x9_2 x11_3 w4 =>
  m_L_isSo_j715 (N + 1) x9_2 x11_3 w4) FU s0 (nI 0) (nI 0) w1
def m_L_isSo_j115 (N : Nat) (x8 : Int32) (w : Wd) : Option (Int32 × Wd) :=
m_L_isSo_j116 N x8 (nI 0) w
def m_L_isSo (N : Nat) (w : Wd) : Option (Int32 × Wd) :=
  if ib (nI 20) 24 then
    if ib (nI 21) 24 then
      if ib (nI 22) 24 then
        if ib (nI 23) 24 then
          lt (((((w 490 (nI 20).toNatClampNeg) + (w 490 (nI 21).toNatClampNeg)) + (w 490 (nI 22).toNatClampNeg)) + (w 490 (nI 23).toNatClampNeg))) fun x8_5 =>
          (m_X7_count (nI 0) w).bind fun o6 =>
          if ib (nI 0) 24 then
            if ¬ o6 = (w 490 (nI 0).toNatClampNeg) then
              m_L_isSo_j115 N x8_5 w
            else
            (m_X7_count (nI 1) w).bind fun o8 =>
            if ib (nI 1) 24 then
              if ¬ o8 = (w 490 (nI 1).toNatClampNeg) then
                m_L_isSo_j115 N x8_5 w
              else
              (m_X7_count (nI 2) w).bind fun o10 =>
              if ib (nI 2) 24 then
                if ¬ o10 = (w 490 (nI 2).toNatClampNeg) then
                  m_L_isSo_j115 N x8_5 w
                else
                (m_X7_count (nI 3) w).bind fun o12 =>
                if ¬ o12 = x8_5 then
                  m_L_isSo_j115 N x8_5 w
                else
                (m_X7_count (nI 4) w).bind fun o13 =>
                if ib (nI 3) 24 then
                  if ¬ o13 = (w 490 (nI 3).toNatClampNeg) then
                    m_L_isSo_j115 N x8_5 w
                  else
                  (m_X7_count (nI 5) w).bind fun o15 =>
                  if ib (nI 4) 24 then
                    if ¬ o15 = (w 490 (nI 4).toNatClampNeg) then
                      m_L_isSo_j115 N x8_5 w
                    else
                    (m_X7_count (nI 6) w).bind fun o17 =>
                    if ib (nI 5) 24 then
                      if ¬ o17 = (w 490 (nI 5).toNatClampNeg) then
                        m_L_isSo_j115 N x8_5 w
                      else
                      (m_X7_count (nI 7) w).bind fun o19 =>
                      if ib (nI 6) 24 then
                        if ¬ o19 = (w 490 (nI 6).toNatClampNeg) then
                          m_L_isSo_j115 N x8_5 w
                        else
                        m_L_isSo_j116 N x8_5 (nI 1) w
                      else none
                    else none
                  else none
                else none
              else none
            else none
          else none
        else none
      else none
    else none
  else none
def m_L_ask_L13 (N : Nat) (q8 : Nat) (kx40 : Int32 → Wd → Option (Int32 × Wd)) : Nat → Int32 → Int32 → Wd → Option (Int32 × Wd)
  | 0, _, _, _ => none
  | n + 1, x9, x10, w =>
    if x10 ≤ 0 then
      kx40 x9 w
    else
    if ib x9 8 then
    lt (wset w q8 x9.toNatClampNeg x10) fun w2 =>
      if ib ((nI 8) + x10) 24 then
        lt ((w2 490 ((nI 8) + x10).toNatClampNeg)) fun x10_4 =>
        (m_L_ask_L13 N q8 kx40 n) (x9 + (nI 1)) x10_4 w2
      else none
    else none
def m_L_ask_j225 (N : Nat) (q8 : Nat) (x10 : Int32) (x11 : Int32) (x12 : Int32) (x13 : Int32) (x14 : Int32) (w : Wd) (kc : Int32 → Int32 → Wd → Option (Int32 × Wd)) (kx231 : Int32 → Wd → Option (Int32 × Wd)) : Option (Int32 × Wd) :=
kc x10 (x14 + (nI 1)) w
def m_L_ask_j223 (N : Nat) (q8 : Nat) (x10 : Int32) (x11 : Int32) (x12 : Int32) (x13 : Int32) (x14 : Int32) (s1 : Int32) (s2 : Int32) (s3 : Int32) (w : Wd) (kc : Int32 → Int32 → Wd → Option (Int32 × Wd)) (kx231 : Int32 → Wd → Option (Int32 × Wd)) : Option (Int32 × Wd) :=
if ib s1 24 then
lt (wset w 490 s1.toNatClampNeg (s2 + s3)) fun w2 =>
  m_L_ask_j225 N q8 x10 x11 x12 x13 x14 w2 kc kx231
else none
def m_L_ask_j205 (N : Nat) (q8 : Nat) (x11 : Int32) (x12 : Int32) (x13 : Int32) (x14 : Int32) (x18 : Int32) (s0 : Int32) (s1 : Int32) (w : Wd) (kc : Int32 → Int32 → Wd → Option (Int32 × Wd)) (kx231 : Int32 → Wd → Option (Int32 × Wd)) : Option (Int32 × Wd) :=
lt ((s0 + s1)) fun x10_1 =>
if ib (nI 7) 24 then
  if ¬ x18 = 0 then
    m_L_ask_j223 N q8 x10_1 x11 x12 x13 x14 (nI 7) (w 490 (nI 7).toNatClampNeg) (nI 1) w kc kx231
  else
  m_L_ask_j223 N q8 x10_1 x11 x12 x13 x14 (nI 7) (w 490 (nI 7).toNatClampNeg) (nI 0) w kc kx231
else none
def m_L_ask_j141 (N : Nat) (q8 : Nat) (x10 : Int32) (x11 : Int32) (x12 : Int32) (x13 : Int32) (x14 : Int32) (x15 : Int32) (x16 : Int32) (s0 : Int32) (w : Wd) (kc : Int32 → Int32 → Wd → Option (Int32 × Wd)) (kx231 : Int32 → Wd → Option (Int32 × Wd)) : Option (Int32 × Wd) :=
if s0 = 0 then
  m_L_ask_j225 N q8 x10 x11 x12 x13 x14 w kc kx231
else
if ib (((nI 4) * x13) + x15) 32 then
  if ¬ (((w 491 (((nI 4) * x13) + x15).toNatClampNeg) >>> (x16 &&& 31)) &&& (nI 1)) = (nI 1) then
    m_L_ask_j225 N q8 x10 x11 x12 x13 x14 w kc kx231
  else
  (m_L_arrive N x12 (((nI 16) * x15) + x16) x13 w).bind fun o2 =>
  if o2.1 ≤ 0 then
    m_L_ask_j205 N q8 x11 x12 x13 x14 o2.1 x10 (nI 0) o2.2 kc kx231
  else
  m_L_ask_j205 N q8 x11 x12 x13 x14 o2.1 x10 (nI 1) o2.2 kc kx231
else none
def m_L_ask_j140 (N : Nat) (q8 : Nat) (x10 : Int32) (x11 : Int32) (x12 : Int32) (x13 : Int32) (x14 : Int32) (x15 : Int32) (x16 : Int32) (w : Wd) (kc : Int32 → Int32 → Wd → Option (Int32 × Wd)) (kx231 : Int32 → Wd → Option (Int32 × Wd)) : Option (Int32 × Wd) :=
m_L_ask_j141 N q8 x10 x11 x12 x13 x14 x15 x16 (nI 0) w kc kx231
def m_L_ask_L81 (N : Nat) (q8 : Nat) (x11 : Int32) (x12 : Int32) (x13 : Int32) (kx231 : Int32 → Wd → Option (Int32 × Wd)) : Nat → Int32 → Int32 → Wd → Option (Int32 × Wd)
  | 0, _, _, _ => none
  | n + 1, x10, x14, w =>
    if (nI 48) ≤ x14 then
      kx231 x10 w
    else
    lt ((x14 / (nI 12))) fun x15_1 =>
    lt (((x14 - x14 / (nI 12) * (nI 12)) + (nI 1))) fun x16_2 =>
    if ib (((nI 4) * x12) + x15_1) 32 then
      if ((w 491 (((nI 4) * x12) + x15_1).toNatClampNeg) >>> (x16_2 &&& 31)) ≤ 0 then
        m_L_ask_j140 N q8 x10 x11 x12 x13 x14 x15_1 x16_2 w (m_L_ask_L81 N q8 x11 x12 x13 kx231 n) kx231
      else
      if ib (((nI 4) * x12) + x15_1) 32 then
        if ¬ (((w 491 (((nI 4) * x12) + x15_1).toNatClampNeg) >>> (x16_2 &&& 31)) &&& (nI 1)) = 0 then
          m_L_ask_j140 N q8 x10 x11 x12 x13 x14 x15_1 x16_2 w (m_L_ask_L81 N q8 x11 x12 x13 kx231 n) kx231
        else
        m_L_ask_j141 N q8 x10 x11 x12 x13 x14 x15_1 x16_2 (nI 1) w (m_L_ask_L81 N q8 x11 x12 x13 kx231 n) kx231
      else none
    else none
def m_L_ask_L54 (N : Nat) (q8 : Nat) : Nat → Int32 → Int32 → Wd → Option (Int32 × Wd)
  | 0, _, _, _ => none
  | n + 1, x10, x11, w =>
    if x11 < 0 then
      some (x10, w)
    else
    if ib x11 8 then
      lt ((w q8 x11.toNatClampNeg)) fun x12_2 =>
      if ib ((nI 8) + x12_2) 24 then
        lt ((w 490 ((nI 8) + x12_2).toNatClampNeg)) fun x13_4 =>
        m_L_ask_L81 N q8 x11 x12_2 x13_4 (fun x10_5 w6 =>
          (m_L_ask_L54 N q8 n) x10_5 (x11 + (-1 : Int32)) w6) 49 (nI 0) (nI 0) w
      else none
    else none
def m_L_ask (N : Nat) (x7 : Int32) (w : Wd) : Option (Int32 × Wd) :=
  lt (va_up w N (fun _ => 0)) fun w1 =>
  m_L_ask_L13 (N + 1) N (fun x9_2 w3 =>
    if ib (nI 7) 24 then
    lt (wset w3 490 (nI 7).toNatClampNeg (nI 0)) fun w5 =>
      lt ((x9_2 - (nI 1))) fun x11_6 =>
      m_L_ask_L54 (N + 1) N 9 (nI 0) x11_6 w5
    else none) FU (nI 0) x7 w1
def m_L_isRead_L125 (N : Nat) (x6 : Int32) (x7 : Int32) (x8 : Int32) (kx165 : Int32 → Int32 → Wd → Option (Int32 × Wd)) : Nat → Int32 → Int32 → Wd → Option (Int32 × Wd)
  | 0, _, _, _ => none
  | n + 1, x10, x11, w =>
    if x11 ≤ 0 then
      kx165 x10 x11 w
    else
    (m_L_has 495 496 x11 (((nI 16) * x7) + x8) w).bind fun o1 =>
    if ¬ o1 = 0 then
      kx165 x10 x11 w
    else
    if ib ((nI 8) + x11) 24 then
      lt ((w 490 ((nI 8) + x11).toNatClampNeg)) fun x11_3 =>
      (m_L_isRead_L125 N x6 x7 x8 kx165 n) (x10 + (nI 1)) x11_3 w
    else none
def m_L_isRead_j231 (N : Nat) (x6 : Int32) (x7 : Int32) (x8 : Int32) (x10 : Int32) (w : Wd) : Option (Int32 × Wd) :=
(m_X7_read x6 x7 x8 w).bind fun o1 =>
lt (wj o1.2 w) fun w2 =>
if ¬ o1.1 = x10 then
  some ((nI 0), w2)
else
some ((nI 1), w2)
def m_L_isRead_j165 (N : Nat) (x6 : Int32) (x7 : Int32) (x8 : Int32) (x10 : Int32) (x11 : Int32) (w : Wd) : Option (Int32 × Wd) :=
(m_L_has 495 496 x11 (((nI 16) * x7) + x8) w).bind fun o1 =>
if ¬ o1 = 0 then
  if x10 ≤ 0 then
    m_L_isRead_j231 N x6 x7 x8 x10 w
  else
  (m_L_keep N x6 (((nI 16) * x7) + x8) w).bind fun o2 =>
  m_L_isRead_j231 N x6 x7 x8 x10 o2
else
(m_X7_read x6 x7 x8 w).bind fun o3 =>
lt (wj o3.2 w) fun w4 =>
if ¬ o3.1 = (-9 : Int32) then
  some ((nI 0), w4)
else
some ((nI 1), w4)
def m_L_isRead (N : Nat) (x6 : Int32) (x7 : Int32) (x8 : Int32) (w : Wd) : Option (Int32 × Wd) :=
  lt (va_up w N (fun _ => 0)) fun w1 =>
  if ib ((nI 20) + x7) 24 then
    if x8 ≤ (w1 490 ((nI 20) + x7).toNatClampNeg) then
      (m_L_serve 491 492 N x6 w1).bind fun o3 =>
      if ib x7 4 then
        if x8 ≤ (o3 N x7.toNatClampNeg) then
          m_L_isRead_L125 (N + 1) x6 x7 x8 (fun x10_5 x11_6 w7 =>
            m_L_isRead_j165 (N + 1) x6 x7 x8 x10_5 x11_6 w7) FU (nI 0) x6 o3
        else
        (m_X7_read x6 x7 x8 o3).bind fun o8 =>
        lt (wj o8.2 o3) fun w9 =>
        if ¬ o8.1 = (-2 : Int32) then
          some ((nI 0), w9)
        else
        some ((nI 1), w9)
      else none
    else
    (m_X7_read x6 x7 x8 w1).bind fun o10 =>
    lt (wj o10.2 w1) fun w11 =>
    if ¬ o10.1 = (-1 : Int32) then
      some ((nI 0), w11)
    else
    (m_X7_status x6 x7 x8 w11).bind fun o12 =>
    lt (wj o12.2 w11) fun w13 =>
    if ¬ o12.1 = (-1 : Int32) then
      some ((nI 0), w13)
    else
    (m_X7_missing x6 x7 x8 w13).bind fun o14 =>
    lt (wj o14.2 w13) fun w15 =>
    if ¬ o14.1 = (-1 : Int32) then
      some ((nI 0), w15)
    else
    (m_X7_cause x7 x8 (nI 0) w15).bind fun o16 =>
    if ¬ o16 = (-1 : Int32) then
      some ((nI 0), w15)
    else
    some ((nI 1), w15)
  else none
def m_L_acts_j134 (N : Nat) (s1 : Int32) (s2 : Int32) (s3 : Int32) (s4 : Int32) (w : Wd) : Option (Int32 × Wd) :=
(m_L_low s3 s4).bind fun o1 =>
if ib s1 24 then
lt (wset w 490 s1.toNatClampNeg (s2 + o1)) fun w3 =>
  if ib (nI 1) 24 then
    if ib (nI 2) 24 then
      (m_X7_setLimits (w3 490 (nI 1).toNatClampNeg) (w3 490 (nI 2).toNatClampNeg) w3).bind fun o6 =>
      lt (wj o6.2 w3) fun w7 =>
      if o6.1 < 0 then
        some ((nI 0), w7)
      else
      some ((nI 1), w7)
    else none
  else none
else none
def m_L_acts_j357 (N : Nat) (q12 : Nat) (x10 : Int32) (x14 : Int32) (s0 : Int32) (w : Wd) (kc : Int32 → Int32 → Wd → Option (Int32 × Wd)) : Option (Int32 × Wd) :=
kc s0 (x14 + (nI 1)) w
def m_L_acts_j356 (N : Nat) (q12 : Nat) (x10 : Int32) (x14 : Int32) (w : Wd) (kc : Int32 → Int32 → Wd → Option (Int32 × Wd)) : Option (Int32 × Wd) :=
m_L_acts_j357 N q12 x10 x14 (nI 0) w kc
def m_L_acts_L318 (N : Nat) (q12 : Nat) (x10 : Int32) : Nat → Int32 → Int32 → Wd → Option (Int32 × Wd)
  | 0, _, _, _ => none
  | n + 1, x13, x14, w =>
    if (nI 4) ≤ x14 then
      some ((x13 &&& 1), w)
    else
    if x13 = 0 then
      m_L_acts_j356 N q12 x10 x14 w (m_L_acts_L318 N q12 x10 n)
    else
    if ib ((nI 20) + x10) 24 then
      (m_X7_cause x10 (w 490 ((nI 20) + x10).toNatClampNeg) x14 w).bind fun o2 =>
      if ib x14 4 then
        if ¬ o2 = (w q12 x14.toNatClampNeg) then
          m_L_acts_j356 N q12 x10 x14 w (m_L_acts_L318 N q12 x10 n)
        else
        m_L_acts_j357 N q12 x10 x14 (nI 1) w (m_L_acts_L318 N q12 x10 n)
      else none
    else none
def m_L_acts_j313 (N : Nat) (q12 : Nat) (x10 : Int32) (s0 : Int32) (w : Wd) : Option (Int32 × Wd) :=
m_L_acts_L318 N q12 x10 FU s0 (nI 0) w
def m_L_acts_j158 (N : Nat) (x10 : Int32) (w : Wd) : Option (Int32 × Wd) :=
if ib ((nI 20) + x10) 24 then
  if ¬ (w 490 ((nI 20) + x10).toNatClampNeg) = (nI 12) then
    lt (va_up w N (fun _ => 0)) fun w2 =>
    if ib ((nI 16) + x10) 24 then
      (m_L_serve 491 492 N (w2 490 ((nI 16) + x10).toNatClampNeg) w2).bind fun o4 =>
      if ib ((nI 20) + x10) 24 then
        if ib x10 4 then
        lt (wset o4 N x10.toNatClampNeg (o4 490 ((nI 20) + x10).toNatClampNeg)) fun w7 =>
          if ib ((nI 20) + x10) 24 then
            if ib (nI 0) 4 then
              if ib (nI 1) 4 then
                if ib (nI 2) 4 then
                  if ib (nI 3) 4 then
                    if ib (((nI 12) * x10) + (w7 490 ((nI 20) + x10).toNatClampNeg)) 48 then
                    lt (wset w7 492 (((nI 12) * x10) + (w7 490 ((nI 20) + x10).toNatClampNeg)).toNatClampNeg ((((w7 N (nI 0).toNatClampNeg) ||| ((w7 N (nI 1).toNatClampNeg) <<< ((nI 5) &&& 31))) ||| ((w7 N (nI 2).toNatClampNeg) <<< ((nI 10) &&& 31))) ||| ((w7 N (nI 3).toNatClampNeg) <<< ((nI 15) &&& 31)))) fun w14 =>
                      if ib ((nI 20) + x10) 24 then
                        if ib ((nI 20) + x10) 24 then
                        lt (wset w14 490 ((nI 20) + x10).toNatClampNeg ((w14 490 ((nI 20) + x10).toNatClampNeg) + (nI 1))) fun w17 =>
                          if ib ((nI 16) + x10) 24 then
                            if ib ((nI 20) + x10) 24 then
                              (m_L_arrive (N + 1) (w17 490 ((nI 16) + x10).toNatClampNeg) (((nI 16) * x10) + (w17 490 ((nI 20) + x10).toNatClampNeg)) (-1 : Int32) w17).bind fun o20 =>
                              (m_X7_write x10 o20.2).bind fun o21 =>
                              lt (wj o21.2 o20.2) fun w22 =>
                              if ib ((nI 20) + x10) 24 then
                                if ¬ o21.1 = (w22 490 ((nI 20) + x10).toNatClampNeg) then
                                  m_L_acts_j313 (N + 1) N x10 (nI 0) w22
                                else
                                m_L_acts_j313 (N + 1) N x10 (nI 1) w22
                              else none
                            else none
                          else none
                        else none
                      else none
                    else none
                  else none
                else none
              else none
            else none
          else none
        else none
      else none
    else none
  else
  some ((nI 1), w)
else none
def m_L_acts_j424 (N : Nat) (s0 : Int32) (s1 : Int32) (w : Wd) : Option (Int32 × Wd) :=
if ¬ s0 = s1 then
  some ((nI 0), w)
else
some ((nI 1), w)
def m_L_acts_j393 (N : Nat) (x9 : Int32) (s0 : Int32) (w : Wd) : Option (Int32 × Wd) :=
(m_X7_ask x9 w).bind fun o1 =>
lt (wj o1.2 w) fun w2 =>
if ¬ x9 = 0 then
  if ib (nI 7) 24 then
    if ¬ (w2 490 (nI 7).toNatClampNeg) = 0 then
      m_L_acts_j424 N o1.1 s0 w2
    else
    m_L_acts_j424 N o1.1 (-9 : Int32) w2
  else none
else
m_L_acts_j424 N o1.1 (-1 : Int32) w2
def m_L_acts_j433 (N : Nat) (x8 : Int32) (x9 : Int32) (x10 : Int32) (w : Wd) : Option (Int32 × Wd) :=
(m_L_low (x8 >>> ((nI 11) &&& 31)) (nI 12)).bind fun o1 =>
(m_L_isRead N x9 x10 ((nI 1) + o1) w).bind fun o2 =>
some ((o2.1 &&& 1), o2.2)
def m_L_acts_j535 (N : Nat) (s0 : Int32) (s1 : Int32) (w : Wd) : Option (Int32 × Wd) :=
if ¬ s0 = s1 then
  some ((nI 0), w)
else
some ((nI 1), w)
def m_L_acts_j514 (N : Nat) (x9 : Int32) (x11 : Int32) (x16 : Int32) (w : Wd) : Option (Int32 × Wd) :=
(m_X7_lose x9 x16 x11 w).bind fun o1 =>
lt (wj o1.2 w) fun w2 =>
if ¬ x9 = 0 then
  m_L_acts_j535 N o1.1 (-2 : Int32) w2
else
m_L_acts_j535 N o1.1 (-1 : Int32) w2
def m_L_acts_j584 (N : Nat) (q15 : Nat) (x9 : Int32) (x11 : Int32) (x16 : Int32) (s0 : Int32) (s1 : Int32) (w : Wd) (kc : Int32 → Wd → Option (Int32 × Wd)) (kx590 : Int32 → Wd → Option (Int32 × Wd)) : Option (Int32 × Wd) :=
lt ((s0 + s1)) fun x17_1 =>
kc x17_1 w
def m_L_acts_L547 (N : Nat) (q15 : Nat) (x9 : Int32) (x11 : Int32) (x16 : Int32) (kx590 : Int32 → Wd → Option (Int32 × Wd)) : Nat → Int32 → Wd → Option (Int32 × Wd)
  | 0, _, _ => none
  | n + 1, x17, w =>
    if x11 ≤ x17 then
      kx590 x17 w
    else
    if ib ((nI 13) * (x9 - (nI 1))) 52 then
      if (w q15 ((nI 13) * (x9 - (nI 1))).toNatClampNeg) ≤ 0 then
        kx590 x17 w
      else
      (m_L_take q15 x9 w).bind fun o2 =>
      if o2.1 ≤ 0 then
        m_L_acts_j584 N q15 x9 x11 x16 x17 (nI 0) o2.2 (m_L_acts_L547 N q15 x9 x11 x16 kx590 n) kx590
      else
      m_L_acts_j584 N q15 x9 x11 x16 x17 (nI 1) o2.2 (m_L_acts_L547 N q15 x9 x11 x16 kx590 n) kx590
    else none
def m_L_acts_j590 (N : Nat) (x9 : Int32) (x11 : Int32) (x16 : Int32) (x17 : Int32) (w : Wd) : Option (Int32 × Wd) :=
if ib (nI 5) 24 then
  if ib (nI 5) 24 then
  lt (wset w 490 (nI 5).toNatClampNeg ((w 490 (nI 5).toNatClampNeg) + x17)) fun w3 =>
    (m_X7_lose x9 x16 x11 w3).bind fun o4 =>
    lt (wj o4.2 w3) fun w5 =>
    if ¬ o4.1 = x17 then
      some ((nI 0), w5)
    else
    some ((nI 1), w5)
  else none
else none
def m_L_acts_j494 (N : Nat) (q15 : Nat) (x9 : Int32) (x11 : Int32) (s0 : Int32) (w : Wd) : Option (Int32 × Wd) :=
if x9 = 0 then
  m_L_acts_j514 N x9 x11 s0 w
else
if ib ((nI 13) * (x9 - (nI 1))) 52 then
  if ¬ (w q15 ((nI 13) * (x9 - (nI 1))).toNatClampNeg) = 0 then
    m_L_acts_L547 N q15 x9 x11 s0 (fun x17_2 w3 =>
      m_L_acts_j590 N x9 x11 s0 x17_2 w3) FU (nI 0) w
  else
  m_L_acts_j514 N x9 x11 s0 w
else none
def m_L_acts_j480 (N : Nat) (r0 : Nat) (x9 : Int32) (x11 : Int32) (w : Wd) : Option (Int32 × Wd) :=
if ¬ r0 = 493 then
  m_L_acts_j494 N r0 x9 x11 (nI 1) w
else
m_L_acts_j494 N r0 x9 x11 (nI 0) w
def m_L_acts_j693 (N : Nat) (s0 : Int32) (s1 : Int32) (w : Wd) : Option (Int32 × Wd) :=
if ¬ s0 = s1 then
  some ((nI 0), w)
else
some ((nI 1), w)
def m_L_acts_j672 (N : Nat) (x9 : Int32) (x11 : Int32) (x19 : Int32) (w : Wd) : Option (Int32 × Wd) :=
(m_X7_deliver x9 x19 x11 w).bind fun o1 =>
lt (wj o1.2 w) fun w2 =>
if ¬ x9 = 0 then
  m_L_acts_j693 N o1.1 (-2 : Int32) w2
else
m_L_acts_j693 N o1.1 (-1 : Int32) w2
def m_L_acts_j801 (N : Nat) (q18 : Nat) (x9 : Int32) (x11 : Int32) (x19 : Int32) (x21 : Int32) (s0 : Int32) (s1 : Int32) (w : Wd) (kc : Int32 → Int32 → Wd → Option (Int32 × Wd)) (kx810 : Int32 → Wd → Option (Int32 × Wd)) : Option (Int32 × Wd) :=
lt ((s0 + s1)) fun x20_1 =>
kc x20_1 (x21 + (nI 1)) w
def m_L_acts_j790 (N : Nat) (q18 : Nat) (x9 : Int32) (x11 : Int32) (x19 : Int32) (x21 : Int32) (s0 : Int32) (s8 : Int32) (s9 : Int32) (s10 : Int32) (w : Wd) (kc : Int32 → Int32 → Wd → Option (Int32 × Wd)) (kx810 : Int32 → Wd → Option (Int32 × Wd)) : Option (Int32 × Wd) :=
(m_L_arrive N s8 s9 s10 w).bind fun o1 =>
if o1.1 ≤ 0 then
  m_L_acts_j801 N q18 x9 x11 x19 x21 s0 (nI 0) o1.2 kc kx810
else
m_L_acts_j801 N q18 x9 x11 x19 x21 s0 (nI 1) o1.2 kc kx810
def m_L_acts_j754 (N : Nat) (q18 : Nat) (x9 : Int32) (x11 : Int32) (x19 : Int32) (x20 : Int32) (x21 : Int32) (x22 : Int32) (s0 : Int32) (w : Wd) (kc : Int32 → Int32 → Wd → Option (Int32 × Wd)) (kx810 : Int32 → Wd → Option (Int32 × Wd)) : Option (Int32 × Wd) :=
if ¬ x19 = 0 then
  if ib ((nI 8) + x9) 24 then
    m_L_acts_j790 N q18 x9 x11 x19 x21 x20 s0 x22 (w 490 ((nI 8) + x9).toNatClampNeg) w kc kx810
  else none
else
m_L_acts_j790 N q18 x9 x11 x19 x21 x20 s0 x22 x9 w kc kx810
def m_L_acts_L708 (N : Nat) (q18 : Nat) (x9 : Int32) (x11 : Int32) (x19 : Int32) (kx810 : Int32 → Wd → Option (Int32 × Wd)) : Nat → Int32 → Int32 → Wd → Option (Int32 × Wd)
  | 0, _, _, _ => none
  | n + 1, x20, x21, w =>
    if x11 ≤ x21 then
      kx810 x20 w
    else
    if ib ((nI 13) * (x9 - (nI 1))) 52 then
      if (w q18 ((nI 13) * (x9 - (nI 1))).toNatClampNeg) ≤ 0 then
        kx810 x20 w
      else
      (m_L_take q18 x9 w).bind fun o2 =>
      if ¬ x19 = 0 then
        m_L_acts_j754 N q18 x9 x11 x19 x20 x21 o2.1 x9 o2.2 (m_L_acts_L708 N q18 x9 x11 x19 kx810 n) kx810
      else
      if ib ((nI 8) + x9) 24 then
        m_L_acts_j754 N q18 x9 x11 x19 x20 x21 o2.1 (o2.2 490 ((nI 8) + x9).toNatClampNeg) o2.2 (m_L_acts_L708 N q18 x9 x11 x19 kx810 n) kx810
      else none
    else none
def m_L_acts_j810 (N : Nat) (x9 : Int32) (x11 : Int32) (x19 : Int32) (x20 : Int32) (w : Wd) : Option (Int32 × Wd) :=
(m_X7_deliver x9 x19 x11 w).bind fun o1 =>
lt (wj o1.2 w) fun w2 =>
if ¬ o1.1 = x20 then
  some ((nI 0), w2)
else
some ((nI 1), w2)
def m_L_acts_j652 (N : Nat) (q18 : Nat) (x9 : Int32) (x11 : Int32) (s0 : Int32) (w : Wd) : Option (Int32 × Wd) :=
if x9 = 0 then
  m_L_acts_j672 N x9 x11 s0 w
else
if ib ((nI 13) * (x9 - (nI 1))) 52 then
  if ¬ (w q18 ((nI 13) * (x9 - (nI 1))).toNatClampNeg) = 0 then
    m_L_acts_L708 N q18 x9 x11 s0 (fun x20_2 w3 =>
      m_L_acts_j810 N x9 x11 s0 x20_2 w3) 10 (nI 0) (nI 0) w
  else
  m_L_acts_j672 N x9 x11 s0 w
else none
def m_L_acts_j638 (N : Nat) (r0 : Nat) (x9 : Int32) (x11 : Int32) (w : Wd) : Option (Int32 × Wd) :=
if ¬ r0 = 493 then
  m_L_acts_j652 N r0 x9 x11 (nI 1) w
else
m_L_acts_j652 N r0 x9 x11 (nI 0) w
def m_L_acts (N : Nat) (x8 : Int32) (w : Wd) : Option (Int32 × Wd) :=
  if ib (nI 0) 24 then
    (m_L_low (x8 >>> ((nI 5) &&& 31)) (w 490 (nI 0).toNatClampNeg)).bind fun o2 =>
    (m_L_low (x8 >>> ((nI 9) &&& 31)) (nI 4)).bind fun o3 =>
    (m_L_low (x8 >>> ((nI 11) &&& 31)) (nI 9)).bind fun o4 =>
    lt (((nI 1) + o4)) fun x11_5 =>
    (m_L_low x8 (nI 16)).bind fun o6 =>
    if o6 = (nI 0) then
      (m_L_low (x8 >>> ((nI 5) &&& 31)) (nI 9)).bind fun o7 =>
      if ib (nI 1) 24 then
      lt (wset w 490 (nI 1).toNatClampNeg o7) fun w9 =>
        (m_L_low (x8 >>> ((nI 14) &&& 31)) (nI 2)).bind fun o10 =>
        if ¬ o10 = 0 then
          m_L_acts_j134 N (nI 2) (nI 1) (x8 >>> ((nI 9) &&& 31)) (nI 12) w9
        else
        m_L_acts_j134 N (nI 2) (nI 1) (x8 >>> ((nI 9) &&& 31)) (nI 4) w9
      else none
    else
    if o6 = (nI 1) then
      m_L_acts_j158 N o3 w
    else
    if o6 = (nI 2) then
      m_L_acts_j158 N o3 w
    else
    if o6 = (nI 3) then
      m_L_acts_j158 N o3 w
    else
    if o6 = (nI 4) then
      m_L_acts_j158 N o3 w
    else
    if o6 = (nI 5) then
      if ¬ o2 = 0 then
        (m_L_ask N o2 w).bind fun o11 =>
        m_L_acts_j393 N o2 o11.1 o11.2
      else
      m_L_acts_j393 N o2 (-1 : Int32) w
    else
    if o6 = (nI 6) then
      m_L_acts_j433 N x8 o2 o3 w
    else
    if o6 = (nI 7) then
      m_L_acts_j433 N x8 o2 o3 w
    else
    if o6 = (nI 8) then
      (m_L_low (x8 >>> ((nI 15) &&& 31)) (nI 2)).bind fun o12 =>
      if ¬ o12 = 0 then
        m_L_acts_j480 N 494 o2 x11_5 w
      else
      m_L_acts_j480 N 493 o2 x11_5 w
    else
    (m_L_low (x8 >>> ((nI 15) &&& 31)) (nI 2)).bind fun o13 =>
    if ¬ o13 = 0 then
      m_L_acts_j638 N 494 o2 x11_5 w
    else
    m_L_acts_j638 N 493 o2 x11_5 w
  else none
def m_L_law_j153 (N : Nat) (L : Nat) (xs : Nat → Int32) (x9 : Int32) (x11 : Int32) (s0 : Int32) (w : Wd) (kc : Int32 → Int32 → Wd → Option (Int32 × Wd)) (kx168 : Int32 → Wd → Option (Int32 × Wd)) : Option (Int32 × Wd) :=
if ib (nI 0) 24 then
  if ib (nI 0) 24 then
  lt (wset w 490 (nI 0).toNatClampNeg ((w 490 (nI 0).toNatClampNeg) + (nI 1))) fun w3 =>
    kc s0 (x11 + (nI 1)) w3
  else none
else none
def m_L_law_j152 (N : Nat) (L : Nat) (xs : Nat → Int32) (x9 : Int32) (x11 : Int32) (w : Wd) (kc : Int32 → Int32 → Wd → Option (Int32 × Wd)) (kx168 : Int32 → Wd → Option (Int32 × Wd)) : Option (Int32 × Wd) :=
m_L_law_j153 N L xs x9 x11 (nI 0) w kc kx168
def m_L_law_L81 (N : Nat) (L : Nat) (xs : Nat → Int32) (x9 : Int32) (kx168 : Int32 → Wd → Option (Int32 × Wd)) : Nat → Int32 → Int32 → Wd → Option (Int32 × Wd)
  | 0, _, _, _ => none
  | n + 1, x10, x11, w =>
    if x9 ≤ x11 then
      kx168 x10 w
    else
    if x10 = 0 then
      kx168 x10 w
    else
    (m_L_cell L 0 (nI 0) (fun _ => xs)).bind fun o1 =>
    (m_L_low (o1 >>> (((nI 3) * x11) &&& 31)) x11).bind fun o2 =>
    if ib ((nI 8) + x11) 24 then
    lt (wset w 490 ((nI 8) + x11).toNatClampNeg o2) fun w4 =>
      if ib ((nI 8) + x11) 24 then
        (m_X7_addProxy (w4 490 ((nI 8) + x11).toNatClampNeg) w4).bind fun o6 =>
        lt (wj o6.2 w4) fun w7 =>
        if ¬ o6.1 = x11 then
          m_L_law_j152 N L xs x9 x11 w7 (m_L_law_L81 N L xs x9 kx168 n) kx168
        else
        (m_X7_proxy x11 (nI 0) w7).bind fun o8 =>
        lt (wj o8.2 w7) fun w9 =>
        if ib ((nI 8) + x11) 24 then
          if ¬ o8.1 = (w9 490 ((nI 8) + x11).toNatClampNeg) then
            m_L_law_j152 N L xs x9 x11 w9 (m_L_law_L81 N L xs x9 kx168 n) kx168
          else
          m_L_law_j153 N L xs x9 x11 (nI 1) w9 (m_L_law_L81 N L xs x9 kx168 n) kx168
        else none
      else none
    else none
def m_L_law_j225 (N : Nat) (L : Nat) (xs : Nat → Int32) (x9 : Int32) (x11 : Int32) (s0 : Int32) (w : Wd) (kc : Int32 → Int32 → Wd → Option (Int32 × Wd)) (kx233 : Int32 → Wd → Option (Int32 × Wd)) : Option (Int32 × Wd) :=
kc s0 (x11 + (nI 1)) w
def m_L_law_L171 (N : Nat) (L : Nat) (xs : Nat → Int32) (x9 : Int32) (kx233 : Int32 → Wd → Option (Int32 × Wd)) : Nat → Int32 → Int32 → Wd → Option (Int32 × Wd)
  | 0, _, _, _ => none
  | n + 1, x10, x11, w =>
    if (nI 4) ≤ x11 then
      kx233 x10 w
    else
    if x10 = 0 then
      kx233 x10 w
    else
    (m_L_cell L 0 (nI 1) (fun _ => xs)).bind fun o1 =>
    (m_L_low (o1 >>> (((nI 3) * x11) &&& 31)) x9).bind fun o2 =>
    if ib ((nI 16) + x11) 24 then
    lt (wset w 490 ((nI 16) + x11).toNatClampNeg o2) fun w4 =>
      if ib ((nI 16) + x11) 24 then
        (m_X7_setHome x11 (w4 490 ((nI 16) + x11).toNatClampNeg) w4).bind fun o6 =>
        lt (wj o6.2 w4) fun w7 =>
        if ¬ o6.1 = 0 then
          m_L_law_j225 N L xs x9 x11 (nI 0) w7 (m_L_law_L171 N L xs x9 kx233 n) kx233
        else
        m_L_law_j225 N L xs x9 x11 (nI 1) w7 (m_L_law_L171 N L xs x9 kx233 n) kx233
      else none
    else none
def m_L_law_j355 (N : Nat) (L : Nat) (xs : Nat → Int32) (x11 : Int32) (x12 : Int32) (s0 : Int32) (w : Wd) (kc : Int32 → Int32 → Wd → Option (Int32 × Wd)) : Option (Int32 × Wd) :=
kc s0 (x12 + (nI 1)) w
def m_L_law_j354 (N : Nat) (L : Nat) (xs : Nat → Int32) (x11 : Int32) (x12 : Int32) (w : Wd) (kc : Int32 → Int32 → Wd → Option (Int32 × Wd)) : Option (Int32 × Wd) :=
m_L_law_j355 N L xs x11 x12 (nI 0) w kc
def m_L_law_L285 (N : Nat) (L : Nat) (xs : Nat → Int32) (x11 : Int32) : Nat → Int32 → Int32 → Wd → Option (Int32 × Wd)
  | 0, _, _, _ => none
  | n + 1, x10, x12, w =>
    if x11 ≤ x12 then
      some ((x10 &&& 1), w)
    else
    if x10 = 0 then
      some ((x10 &&& 1), w)
    else
    (m_L_cell L 0 ((nI 2) + x12) (fun _ => xs)).bind fun o1 =>
    (m_L_acts N (o1 ^^^ ((nI 7919) * x12)) w).bind fun o2 =>
    if o2.1 = 0 then
      m_L_law_j354 N L xs x11 x12 o2.2 (m_L_law_L285 N L xs x11 n)
    else
    (m_L_isSo N o2.2).bind fun o3 =>
    if o3.1 = 0 then
      m_L_law_j354 N L xs x11 x12 o3.2 (m_L_law_L285 N L xs x11 n)
    else
    m_L_law_j355 N L xs x11 x12 (nI 1) o3.2 (m_L_law_L285 N L xs x11 n)
def m_L_law_j262 (N : Nat) (L : Nat) (xs : Nat → Int32) (s0 : Int32) (w : Wd) : Option (Int32 × Wd) :=
(m_L_cell L 0 (nI 1) (fun _ => xs)).bind fun o1 =>
(m_L_low (o1 >>> ((nI 13) &&& 31)) (nI 60)).bind fun o2 =>
lt (((nI 8) + o2)) fun x11_3 =>
m_L_law_L285 N L xs x11_3 68 s0 (nI 0) w
def m_L_law_j261 (N : Nat) (L : Nat) (xs : Nat → Int32) (w : Wd) : Option (Int32 × Wd) :=
m_L_law_j262 N L xs (nI 0) w
def m_L_law_j233 (N : Nat) (L : Nat) (xs : Nat → Int32) (x10 : Int32) (w : Wd) : Option (Int32 × Wd) :=
if x10 = 0 then
  m_L_law_j261 N L xs w
else
(m_L_isSo N w).bind fun o1 =>
if o1.1 = 0 then
  m_L_law_j261 N L xs o1.2
else
m_L_law_j262 N L xs (nI 1) o1.2
def m_L_law_j168 (N : Nat) (L : Nat) (xs : Nat → Int32) (x9 : Int32) (x10 : Int32) (w : Wd) : Option (Int32 × Wd) :=
m_L_law_L171 N L xs x9 (fun x10_1 w2 =>
  m_L_law_j233 N L xs x10_1 w2) FU x10 (nI 0) w
def m_L_law_j48 (N : Nat) (L : Nat) (xs : Nat → Int32) (w : Wd) : Option (Int32 × Wd) :=
if ib (nI 0) 24 then
lt (wset w 490 (nI 0).toNatClampNeg (nI 1)) fun w2 =>
  if ib (nI 1) 24 then
  lt (wset w2 490 (nI 1).toNatClampNeg (nI 8)) fun w4 =>
    if ib (nI 2) 24 then
    lt (wset w4 490 (nI 2).toNatClampNeg (nI 12)) fun w6 =>
      (m_L_cell L 0 (nI 0) (fun _ => xs)).bind fun o7 =>
      (m_L_low o7 (nI 5)).bind fun o8 =>
      lt (((nI 1) + o8)) fun x9_9 =>
      m_L_law_L81 N L xs x9_9 (fun x10_10 w11 =>
        m_L_law_j168 N L xs x9_9 x10_10 w11) FU (nI 1) (nI 1) w6
    else none
  else none
else none
