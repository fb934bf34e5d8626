def xX11_in_15 (s0 : Int32) (h : HP) : Option (Int32 × HP) :=
  zok s0 (some (s0, h))
def xX11_in_14 (h : HP) : Option (Int32 × HP) :=
  xX11_in_15 0 h
def xX11_in (a0 : Int32) (a1 : Int32) (a2 : Int32) (h : HP) : Option (Int32 × HP) :=
  if a0 < a1 then
    (xX11_in_14 h)
  else
    (if a2 < a0 then
      (xX11_in_14 h)
    else
      (xX11_in_15 1 h))
def xX11_min_10 (s0 : Int32) (h : HP) : Option (Int32 × HP) :=
  some (s0, h)
def xX11_min (a0 : Int32) (a1 : Int32) (h : HP) : Option (Int32 × HP) :=
  if a1 ≤ a0 then
    (xX11_min_10 a1 h)
  else
    (xX11_min_10 a0 h)
def xX11_max_10 (s0 : Int32) (h : HP) : Option (Int32 × HP) :=
  some (s0, h)
def xX11_max (a0 : Int32) (a1 : Int32) (h : HP) : Option (Int32 × HP) :=
  if a0 ≤ a1 then
    (xX11_max_10 a1 h)
  else
    (xX11_max_10 a0 h)
def xX11_has_14 (s0 : Int32) (h : HP) : Option (Int32 × HP) :=
  zok s0 (some (s0, h))
def xX11_has (a0 : Int32) (a1 : Int32) (h : HP) : Option (Int32 × HP) :=
  if ((a0 >>> (a1 &&& 31)) &&& 1) ≠ (1 : Int32) then
    (xX11_has_14 0 h)
  else
    (xX11_has_14 1 h)
def xX11_bits_4 (N : Nat) : Nat → Int32 → Int32 → Int32 → HP → Option (Int32 × HP)
  | 0 => fun _ _ _ _ => none
  | n + 1 => fun a0 a1 a2 h =>
    if (16 : Int32) ≤ a2 then
      (some (a1, h))
    else
      (lt (a1 + ((a0 >>> (a2 &&& 31)) &&& 1)) fun v1 =>
      lt (a2 + 1) fun v2 =>
      (xX11_bits_4 N n) a0 v1 v2 h)
def xX11_bits (N : Nat) (a0 : Int32) (h : HP) : Option (Int32 × HP) :=
  xX11_bits_4 N N a0 0 0 h
def xX11_copies_2 (N : Nat) (ka : Nat) (kb : Nat) : Nat → Int32 → HP → Option (Int32 × HP)
  | 0 => fun _ _ => none
  | n + 1 => fun a2 h =>
    if (75 : Int32) ≤ a2 then
      (some (0, h))
    else
      (ald h ka 75 a2 fun t1 =>
      ast h kb 75 a2 t1 fun h2 =>
      lt (a2 + 1) fun v3 =>
      (xX11_copies_2 N ka kb n) v3 h2)
def xX11_copies (N : Nat) (ka : Nat) (kb : Nat) (h : HP) : Option (Int32 × HP) :=
  xX11_copies_2 N ka kb N 0 h
def xX11_isTold_26 (s0 : Int32) (h : HP) : Option (Int32 × HP) :=
  zok s0 (some (s0, h))
def xX11_isTold_25 (h : HP) : Option (Int32 × HP) :=
  xX11_isTold_26 0 h
def xX11_isTold (a1 : Int32) (h : HP) : Option (Int32 × HP) :=
  cl (xX11_in a1 0 15 h) fun t1 h2 =>
  if t1 = 0 then
    (xX11_isTold_25 h2)
  else
    (cl (xX11_has (h2.1 0 7) a1 h2) fun t3 h4 =>
    if t3 = 0 then
      (xX11_isTold_25 h4)
    else
      (xX11_isTold_26 1 h4))
def xX11_areTwo_26 (s0 : Int32) (h : HP) : Option (Int32 × HP) :=
  zok s0 (some (s0, h))
def xX11_areTwo_25 (h : HP) : Option (Int32 × HP) :=
  xX11_areTwo_26 0 h
def xX11_areTwo (a1 : Int32) (a2 : Int32) (h : HP) : Option (Int32 × HP) :=
  cl (xX11_isTold a1 h) fun t1 h2 =>
  if t1 = 0 then
    (xX11_areTwo_25 h2)
  else
    (cl (xX11_isTold a2 h2) fun t3 h4 =>
    if t3 = 0 then
      (xX11_areTwo_25 h4)
    else
      (if a1 = a2 then
        (xX11_areTwo_25 h4)
      else
        (xX11_areTwo_26 1 h4)))
def xX11_isOpen_32 (s0 : Int32) (h : HP) : Option (Int32 × HP) :=
  zok s0 (some (s0, h))
def xX11_isOpen_31 (h : HP) : Option (Int32 × HP) :=
  xX11_isOpen_32 0 h
def xX11_isOpen (a1 : Int32) (h : HP) : Option (Int32 × HP) :=
  cl (xX11_in a1 0 ((h.1 0 8) - 1) h) fun t1 h2 =>
  if t1 = 0 then
    (xX11_isOpen_31 h2)
  else
    (ald h2 1 75 (48 + a1) fun t3 =>
    if t3 ≠ (1 : Int32) then
      (xX11_isOpen_31 h2)
    else
      (xX11_isOpen_32 1 h2))
def xX11_beyond_49 (s0 : Int32) (h : HP) : Option (Int32 × HP) :=
  some (s0, h)
def xX11_beyond (a1 : Int32) (a2 : Int32) (h : HP) : Option (Int32 × HP) :=
  cl (xX11_isOpen a1 h) fun t1 h2 =>
  if t1 ≠ 0 then
    (ald h2 5 24 a1 fun t3 =>
    if t3 ≠ a2 then
      (ald h2 6 24 a1 fun t4 =>
      if t4 ≠ a2 then
        (xX11_beyond_49 (-1) h2)
      else
        (ald h2 5 24 a1 fun t5 =>
        xX11_beyond_49 t5 h2))
    else
      (ald h2 6 24 a1 fun t6 =>
      xX11_beyond_49 t6 h2))
  else
    (some ((-1), h2))
def xX11_nextTo_33 (N : Nat) (K4 : Int32 → Int32 → Int32 → HP → Option (Int32 × HP)) (a1 : Int32) (a2 : Int32) (a3 : Int32) (h : HP) : Option (Int32 × HP) :=
  lt (a3 + 1) fun v1 =>
  K4 a1 a2 v1 h
def xX11_nextTo_4 (N : Nat) : Nat → Int32 → Int32 → Int32 → HP → Option (Int32 × HP)
  | 0 => fun _ _ _ _ => none
  | n + 1 => fun a1 a2 a3 h =>
    if (h.1 0 8) ≤ a3 then
      (some (a2, h))
    else
      (cl (xX11_beyond a3 a1 h) fun t1 h2 =>
      if t1 = (-1 : Int32) then
        (xX11_nextTo_33 N (xX11_nextTo_4 N n) a1 a2 a3 h2)
      else
        (cl (xX11_beyond a3 a1 h2) fun t3 h4 =>
        lt (a2 ||| (1 <<< (t3 &&& 31))) fun v5 =>
        xX11_nextTo_33 N (xX11_nextTo_4 N n) a1 v5 a3 h4))
def xX11_nextTo (N : Nat) (a1 : Int32) (h : HP) : Option (Int32 × HP) :=
  xX11_nextTo_4 N N a1 0 0 h
def xX11_openOf_26 (N : Nat) (K4 : Int32 → Int32 → Int32 → HP → Option (Int32 × HP)) (a1 : Int32) (a2 : Int32) (a3 : Int32) (h : HP) : Option (Int32 × HP) :=
  lt (a3 + 1) fun v1 =>
  K4 a1 a2 v1 h
def xX11_openOf_4 (N : Nat) : Nat → Int32 → Int32 → Int32 → HP → Option (Int32 × HP)
  | 0 => fun _ _ _ _ => none
  | n + 1 => fun a1 a2 a3 h =>
    if (h.1 0 8) ≤ a3 then
      (some (a2, h))
    else
      (cl (xX11_beyond a3 a1 h) fun t1 h2 =>
      if t1 = (-1 : Int32) then
        (xX11_openOf_26 N (xX11_openOf_4 N n) a1 a2 a3 h2)
      else
        (lt (a2 + 1) fun v3 =>
        xX11_openOf_26 N (xX11_openOf_4 N n) a1 v3 a3 h2))
def xX11_openOf (N : Nat) (a1 : Int32) (h : HP) : Option (Int32 × HP) :=
  xX11_openOf_4 N N a1 0 0 h
def xX11_types_2 (N : Nat) : Nat → Int32 → Int32 → HP → Option (Int32 × HP)
  | 0 => fun _ _ _ => none
  | n + 1 => fun a1 a2 h =>
    if a2 < 0 then
      (some (0, h))
    else
      (ast h 8 260 (h.1 0 10) (((a1 >>> ((8 * a2) &&& 31)).toInt8.toInt32).toInt8.toInt32) fun h1 =>
      lt (up h1 0 10 ((h1.1 0 10) + 1)) fun h2 =>
      lt (a2 + (-1)) fun v3 =>
      (xX11_types_2 N n) a1 v3 h2)
def xX11_types (N : Nat) (a1 : Int32) (h : HP) : Option (Int32 × HP) :=
  xX11_types_2 N N a1 3 h
def xX11_feed (N : Nat) (a1 : Int32) (a2 : Int32) (a3 : Int32) (a4 : Int32) (a5 : Int32) (h : HP) : Option (Int32 × HP) :=
  if ((h.1 0 10) + 20) ≤ (260 : Int32) then
    (cl (xX11_types N a1 h) fun t1 h2 =>
    cl (xX11_types N a2 h2) fun t3 h4 =>
    cl (xX11_types N a3 h4) fun t5 h6 =>
    cl (xX11_types N a4 h6) fun t7 h8 =>
    cl (xX11_types N a5 h8) fun t9 h10 =>
    some (h10.1 0 10, h10))
  else
    (some ((-1), h))
def xX11_octet (a1 : Int32) (h : HP) : Option (Int32 × HP) :=
  ald h 8 260 a1 fun t1 =>
  some (t1 &&& 255, h)
def xX11_here_28 (s0 : Int32) (h : HP) : Option (Int32 × HP) :=
  some (s0, h)
def xX11_here (h : HP) : Option (Int32 × HP) :=
  if (h.1 0 12) ≤ (h.1 0 11) then
    (xX11_here_28 (-1) h)
  else
    (ald h 8 260 (h.1 0 11) fun t1 =>
    xX11_here_28 (t1 &&& 255) h)
def xX11_isDigit_23 (s0 : Int32) (h : HP) : Option (Int32 × HP) :=
  zok s0 (some (s0, h))
def xX11_isDigit_22 (h : HP) : Option (Int32 × HP) :=
  xX11_isDigit_23 0 h
def xX11_isDigit (h : HP) : Option (Int32 × HP) :=
  cl (xX11_here h) fun t1 h2 =>
  if t1 < (48 : Int32) then
    (xX11_isDigit_22 h2)
  else
    (cl (xX11_here h2) fun t3 h4 =>
    if (57 : Int32) < t3 then
      (xX11_isDigit_22 h4)
    else
      (xX11_isDigit_23 1 h4))
def xX11_wrongAt (a1 : Int32) (a2 : Int32) (h : HP) : Option (Int32 × HP) :=
  lt (up h 0 13 (((-1000) * a1) - a2)) fun h1 =>
  zok 0 (some (0, h1))
def xX11_takes (a1 : Int32) (h : HP) : Option (Int32 × HP) :=
  cl (xX11_here h) fun t1 h2 =>
  if t1 = a1 then
    (lt (up h2 0 11 ((h2.1 0 11) + 1)) fun h3 =>
    zok 1 (some (1, h3)))
  else
    (cl (xX11_wrongAt 1 (h2.1 0 11) h2) fun t4 h5 =>
    zok t4 (some (t4, h5)))
def xX11_readsNumber_10 (N : Nat) : Nat → Int32 → HP → Option (Int32 × HP)
  | 0 => fun _ _ => none
  | n + 1 => fun a1 h =>
    cl (xX11_isDigit h) fun t1 h2 =>
    if t1 = 0 then
      (zok 1 (some (1, h2)))
    else
      (if (h2.1 0 11) ≠ (a1 + 5) then
        (cl (xX11_here h2) fun t3 h4 =>
        lt (up h4 0 14 (((10 * (h2.1 0 14)) + t3) - 48)) fun h5 =>
        lt (up h5 0 11 ((h5.1 0 11) + 1)) fun h6 =>
        (xX11_readsNumber_10 N n) a1 h6)
      else
        (cl (xX11_wrongAt 2 (h2.1 0 11) h2) fun t7 h8 =>
        zok t7 (some (t7, h8))))
def xX11_readsNumber (N : Nat) (h : HP) : Option (Int32 × HP) :=
  lt (h.1 0 11) fun v1 =>
  lt (up h 0 14 0) fun h2 =>
  xX11_readsNumber_10 N N v1 h2
def xX11_notes (a1 : Int32) (a2 : Int32) (h : HP) : Option (Int32 × HP) :=
  ast h 9 260 (h.1 0 16) ((1048576 * a1) + a2) fun h1 =>
  lt (up h1 0 16 ((h1.1 0 16) + 1)) fun h2 =>
  some (0, h2)
def xX11_opens (a1 : Int32) (h : HP) : Option (Int32 × HP) :=
  if (h.1 0 15) ≠ (6 : Int32) then
    (lt (up h 0 15 ((h.1 0 15) + 1)) fun h1 =>
    ast h1 10 260 (h1.1 0 17) (1048576 * a1) fun h2 =>
    lt (up h2 0 17 ((h2.1 0 17) + 1)) fun h3 =>
    lt (up h3 0 11 ((h3.1 0 11) + 1)) fun h4 =>
    zok 1 (some (1, h4)))
  else
    (cl (xX11_wrongAt 5 (h.1 0 11) h) fun t5 h6 =>
    zok t5 (some (t5, h6)))
def xX11_waitTop_25 (s0 : Int32) (h : HP) : Option (Int32 × HP) :=
  some (s0, h)
def xX11_waitTop (h : HP) : Option (Int32 × HP) :=
  if (h.1 0 17) ≠ 0 then
    (ald h 10 260 ((h.1 0 17) - 1) fun t1 =>
    xX11_waitTop_25 (t1 / 1048576) h)
  else
    (xX11_waitTop_25 (-1) h)
def xX11_factOf (a0 : Int32) (h : HP) : Option (Int32 × HP) :=
  if a0 = 97 then
    (some (7, h))
  else if a0 = 99 then
    (some (0, h))
  else if a0 = 104 then
    (some (1, h))
  else if a0 = 109 then
    (some (5, h))
  else if a0 = 110 then
    (some (4, h))
  else if a0 = 113 then
    (some (6, h))
  else if a0 = 115 then
    (some (2, h))
  else if a0 = 116 then
    (some (8, h))
  else if a0 = 117 then
    (some (3, h))
  else if a0 = 119 then
    (some (9, h))
  else (some ((-1), h))
def xX11_sumSign_52 (s0 : Int32) (h : HP) : Option (Int32 × HP) :=
  some (s0, h)
def xX11_sumSign (a0 : Int32) (h : HP) : Option (Int32 × HP) :=
  if a0 ≠ (43 : Int32) then
    (if a0 ≠ (45 : Int32) then
      (if a0 ≠ (42 : Int32) then
        (if a0 ≠ (47 : Int32) then
          (if a0 ≠ (37 : Int32) then
            (xX11_sumSign_52 (-1) h)
          else
            (xX11_sumSign_52 6 h))
        else
          (xX11_sumSign_52 5 h))
      else
        (xX11_sumSign_52 4 h))
    else
      (xX11_sumSign_52 3 h))
  else
    (xX11_sumSign_52 2 h)
def xX11_closesSums_37 (N : Nat) (K0 : Int32 → HP → Option (Int32 × HP)) (a1 : Int32) (h : HP) : Option (Int32 × HP) :=
  cl (xX11_waitTop h) fun t1 h2 =>
  cl (xX11_notes t1 0 h2) fun t3 h4 =>
  lt (up h4 0 17 ((h4.1 0 17) - 1)) fun h5 =>
  K0 a1 h5
def xX11_closesSums_59 (N : Nat) (h : HP) : Option (Int32 × HP) :=
  some (0, h)
def xX11_closesSums_17 (N : Nat) (K0 : Int32 → HP → Option (Int32 × HP)) (a1 : Int32) (h : HP) : Option (Int32 × HP) :=
  if a1 = 0 then
    (xX11_closesSums_59 N h)
  else
    (cl (xX11_waitTop h) fun t1 h2 =>
    if t1 = (2 : Int32) then
      (xX11_closesSums_37 N K0 a1 h2)
    else
      (cl (xX11_waitTop h2) fun t3 h4 =>
      if t3 ≠ (3 : Int32) then
        (xX11_closesSums_59 N h4)
      else
        (xX11_closesSums_37 N K0 a1 h4)))
def xX11_closesSums_0 (N : Nat) : Nat → Int32 → HP → Option (Int32 × HP)
  | 0 => fun _ _ => none
  | n + 1 => fun a1 h =>
    cl (xX11_waitTop h) fun t1 h2 =>
    if t1 < (4 : Int32) then
      (xX11_closesSums_17 N (xX11_closesSums_0 N n) a1 h2)
    else
      (cl (xX11_waitTop h2) fun t3 h4 =>
      if t3 ≤ (6 : Int32) then
        (xX11_closesSums_37 N (xX11_closesSums_0 N n) a1 h4)
      else
        (xX11_closesSums_17 N (xX11_closesSums_0 N n) a1 h4))
def xX11_closesSums (N : Nat) (a1 : Int32) (h : HP) : Option (Int32 × HP) := xX11_closesSums_0 N N a1 h
def xX11_readsFactor_0 (N : Nat) : Nat → HP → Option (Int32 × HP)
  | 0 => fun _ => none
  | n + 1 => fun h =>
    cl (xX11_here h) fun t1 h2 =>
    if t1 ≠ (91 : Int32) then
      (cl (xX11_isDigit h2) fun t3 h4 =>
      if t3 = 0 then
        (cl (xX11_here h4) fun t5 h6 =>
        cl (xX11_factOf t5 h6) fun t7 h8 =>
        if t7 ≠ (-1 : Int32) then
          (cl (xX11_notes 1 t7 h8) fun t9 h10 =>
          lt (up h10 0 11 ((h10.1 0 11) + 1)) fun h11 =>
          zok 1 (some (1, h11)))
        else
          (cl (xX11_wrongAt 1 (h8.1 0 11) h8) fun t12 h13 =>
          zok t12 (some (t12, h13))))
      else
        (cl (xX11_readsNumber N h4) fun t14 h15 =>
        if t14 ≠ 0 then
          (cl (xX11_notes 0 (h15.1 0 14) h15) fun t16 h17 =>
          zok 1 (some (1, h17)))
        else
          (zok 0 (some (0, h15)))))
    else
      (cl (xX11_opens 14 h2) fun t18 h19 =>
      if t18 ≠ 0 then
        ((xX11_readsFactor_0 N n) h19)
      else
        (zok 0 (some (0, h19))))
def xX11_readsFactor (N : Nat) (h : HP) : Option (Int32 × HP) := xX11_readsFactor_0 N N h
def xX11_hasOpenSum_2 (N : Nat) : Nat → Int32 → HP → Option (Int32 × HP)
  | 0 => fun _ _ => none
  | n + 1 => fun a2 h =>
    if (h.1 0 17) ≤ a2 then
      (zok 0 (some (0, h)))
    else
      (ald h 10 260 a2 fun t1 =>
      if (t1 / 1048576) ≠ (14 : Int32) then
        (lt (a2 + 1) fun v2 =>
        (xX11_hasOpenSum_2 N n) v2 h)
      else
        (zok 1 (some (1, h))))
def xX11_hasOpenSum (N : Nat) (a1 : Int32) (h : HP) : Option (Int32 × HP) :=
  xX11_hasOpenSum_2 N N a1 h
def xX11_readsSum_163 (N : Nat) (K14 : Int32 → HP → Option (Int32 × HP)) (a1 : Int32) (h : HP) : Option (Int32 × HP) :=
  K14 a1 h
def xX11_readsSum_38 (N : Nat) (K14 : Int32 → HP → Option (Int32 × HP)) (a1 : Int32) (a2 : Int32) (s1 : Int32) (h : HP) : Option (Int32 × HP) :=
  cl (xX11_closesSums N s1 h) fun t1 h2 =>
  ast h2 10 260 (h2.1 0 17) (1048576 * a2) fun h3 =>
  lt (up h3 0 17 ((h3.1 0 17) + 1)) fun h4 =>
  lt (up h4 0 11 ((h4.1 0 11) + 1)) fun h5 =>
  cl (xX11_readsFactor N h5) fun t6 h7 =>
  if t6 ≠ 0 then
    (xX11_readsSum_163 N K14 a1 h7)
  else
    (zok 0 (some (0, h7)))
def xX11_readsSum_138 (N : Nat) (a1 : Int32) (h : HP) : Option (Int32 × HP) :=
  cl (xX11_hasOpenSum N a1 h) fun t1 h2 =>
  if t1 = 0 then
    (cl (xX11_closesSums N 1 h2) fun t3 h4 =>
    zok 1 (some (1, h4)))
  else
    (cl (xX11_wrongAt 1 (h2.1 0 11) h2) fun t5 h6 =>
    zok t5 (some (t5, h6)))
def xX11_readsSum_14 (N : Nat) : Nat → Int32 → HP → Option (Int32 × HP)
  | 0 => fun _ _ => none
  | n + 1 => fun a1 h =>
    cl (xX11_here h) fun t1 h2 =>
    cl (xX11_sumSign t1 h2) fun t3 h4 =>
    if t3 = (-1 : Int32) then
      (cl (xX11_here h4) fun t5 h6 =>
      if t5 ≠ (93 : Int32) then
        (xX11_readsSum_138 N a1 h6)
      else
        (cl (xX11_hasOpenSum N a1 h6) fun t7 h8 =>
        if t7 = 0 then
          (xX11_readsSum_138 N a1 h8)
        else
          (cl (xX11_closesSums N 1 h8) fun t9 h10 =>
          lt (up h10 0 17 ((h10.1 0 17) - 1)) fun h11 =>
          lt (up h11 0 15 ((h11.1 0 15) - 1)) fun h12 =>
          lt (up h12 0 11 ((h12.1 0 11) + 1)) fun h13 =>
          xX11_readsSum_163 N (xX11_readsSum_14 N n) a1 h13)))
    else
      (if (4 : Int32) ≤ t3 then
        (xX11_readsSum_38 N (xX11_readsSum_14 N n) a1 t3 0 h4)
      else
        (xX11_readsSum_38 N (xX11_readsSum_14 N n) a1 t3 1 h4))
def xX11_readsSum (N : Nat) (h : HP) : Option (Int32 × HP) :=
  lt (h.1 0 17) fun v1 =>
  cl (xX11_readsFactor N h) fun t2 h3 =>
  if t2 ≠ 0 then
    (xX11_readsSum_14 N N v1 h3)
  else
    (zok 0 (some (0, h3)))
def xX11_endsPiece_0 (N : Nat) : Nat → HP → Option (Int32 × HP)
  | 0 => fun _ => none
  | n + 1 => fun h =>
    cl (xX11_waitTop h) fun t1 h2 =>
    if t1 ≠ (10 : Int32) then
      (some (0, h2))
    else
      (cl (xX11_notes 10 0 h2) fun t3 h4 =>
      lt (up h4 0 17 ((h4.1 0 17) - 1)) fun h5 =>
      lt (up h5 0 15 ((h5.1 0 15) - 1)) fun h6 =>
      (xX11_endsPiece_0 N n) h6)
def xX11_endsPiece (N : Nat) (h : HP) : Option (Int32 × HP) := xX11_endsPiece_0 N N h
def xX11_lands_22 (N : Nat) (K0 : Int32 → HP → Option (Int32 × HP)) (a1 : Int32) (h : HP) : Option (Int32 × HP) :=
  ald h 10 260 ((h.1 0 17) - 1) fun t1 =>
  lt (irem t1 1048576) fun v2 =>
  ald h 9 260 v2 fun t3 =>
  ast h 9 260 v2 ((1048576 * (t3 / 1048576)) + (h.1 0 16)) fun h4 =>
  lt (up h4 0 17 ((h4.1 0 17) - 1)) fun h5 =>
  K0 a1 h5
def xX11_lands_73 (N : Nat) (h : HP) : Option (Int32 × HP) :=
  some (0, h)
def xX11_lands_0 (N : Nat) : Nat → Int32 → HP → Option (Int32 × HP)
  | 0 => fun _ _ => none
  | n + 1 => fun a1 h =>
    cl (xX11_waitTop h) fun t1 h2 =>
    if t1 = (11 : Int32) then
      (xX11_lands_22 N (xX11_lands_0 N n) a1 h2)
    else
      (if a1 = 0 then
        (xX11_lands_73 N h2)
      else
        (cl (xX11_waitTop h2) fun t3 h4 =>
        if t3 ≠ (12 : Int32) then
          (xX11_lands_73 N h4)
        else
          (xX11_lands_22 N (xX11_lands_0 N n) a1 h4)))
def xX11_lands (N : Nat) (a1 : Int32) (h : HP) : Option (Int32 × HP) := xX11_lands_0 N N a1 h
def xX11_jumps (a1 : Int32) (h : HP) : Option (Int32 × HP) :=
  ast h 10 260 (h.1 0 17) ((1048576 * a1) + (h.1 0 16)) fun h1 =>
  lt (up h1 0 17 ((h1.1 0 17) + 1)) fun h2 =>
  cl (xX11_notes a1 0 h2) fun t3 h4 =>
  lt (up h4 0 11 ((h4.1 0 11) + 1)) fun h5 =>
  some (0, h5)
def xX11_readsCompared_52 (N : Nat) (s0 : Int32) (h : HP) : Option (Int32 × HP) :=
  if s0 ≠ (-1 : Int32) then
    (lt (up h 0 11 ((h.1 0 11) + 1)) fun h1 =>
    cl (xX11_readsSum N h1) fun t2 h3 =>
    if t2 ≠ 0 then
      (cl (xX11_notes s0 0 h3) fun t4 h5 =>
      cl (xX11_endsPiece N h5) fun t6 h7 =>
      zok 1 (some (1, h7)))
    else
      (zok 0 (some (0, h3))))
  else
    (cl (xX11_wrongAt 1 (h.1 0 11) h) fun t8 h9 =>
    zok t8 (some (t8, h9)))
def xX11_readsCompared (N : Nat) (h : HP) : Option (Int32 × HP) :=
  cl (xX11_readsSum N h) fun t1 h2 =>
  if t1 ≠ 0 then
    (cl (xX11_here h2) fun t3 h4 =>
    if t3 ≠ (60 : Int32) then
      (cl (xX11_here h4) fun t5 h6 =>
      if t5 ≠ (62 : Int32) then
        (cl (xX11_here h6) fun t7 h8 =>
        if t7 ≠ (61 : Int32) then
          (xX11_readsCompared_52 N (-1) h8)
        else
          (xX11_readsCompared_52 N 9 h8))
      else
        (xX11_readsCompared_52 N 8 h6))
    else
      (xX11_readsCompared_52 N 7 h4))
  else
    (zok 0 (some (0, h2)))
def xX11_readsCondition_75 (N : Nat) (K40 : HP → Option (Int32 × HP)) (s1 : Int32) (h : HP) : Option (Int32 × HP) :=
  cl (xX11_opens s1 h) fun t1 h2 =>
  if t1 ≠ 0 then
    (K40 h2)
  else
    (zok 0 (some (0, h2)))
def xX11_readsCondition_58 (N : Nat) (K40 : HP → Option (Int32 × HP)) (h : HP) : Option (Int32 × HP) :=
  cl (xX11_here h) fun t1 h2 =>
  if t1 ≠ (33 : Int32) then
    (xX11_readsCondition_75 N K40 13 h2)
  else
    (xX11_readsCondition_75 N K40 10 h2)
def xX11_readsCondition_215 (N : Nat) (K40 : HP → Option (Int32 × HP)) (s1 : Int32) (h : HP) : Option (Int32 × HP) :=
  cl (xX11_jumps s1 h) fun t1 h2 =>
  K40 h2
def xX11_readsCondition_195 (N : Nat) (K40 : HP → Option (Int32 × HP)) (s1 : Int32) (h : HP) : Option (Int32 × HP) :=
  cl (xX11_lands N s1 h) fun t1 h2 =>
  cl (xX11_here h2) fun t3 h4 =>
  if t3 ≠ (38 : Int32) then
    (xX11_readsCondition_215 N K40 12 h4)
  else
    (xX11_readsCondition_215 N K40 11 h4)
def xX11_readsCondition_180 (N : Nat) (K40 : HP → Option (Int32 × HP)) (h : HP) : Option (Int32 × HP) :=
  cl (xX11_here h) fun t1 h2 =>
  if t1 ≠ (124 : Int32) then
    (xX11_readsCondition_195 N K40 0 h2)
  else
    (xX11_readsCondition_195 N K40 1 h2)
def xX11_readsCondition_92 (N : Nat) (K40 : HP → Option (Int32 × HP)) : Nat → HP → Option (Int32 × HP)
  | 0 => fun _ => none
  | n + 1 => fun h =>
    cl (xX11_here h) fun t1 h2 =>
    if t1 ≠ (41 : Int32) then
      (cl (xX11_here h2) fun t3 h4 =>
      if t3 = (38 : Int32) then
        (xX11_readsCondition_180 N K40 h4)
      else
        (cl (xX11_here h4) fun t5 h6 =>
        if t5 = (124 : Int32) then
          (xX11_readsCondition_180 N K40 h6)
        else
          (cl (xX11_wrongAt 1 (h6.1 0 11) h6) fun t7 h8 =>
          zok t7 (some (t7, h8)))))
    else
      (cl (xX11_lands N 1 h2) fun t9 h10 =>
      lt (up h10 0 17 ((h10.1 0 17) - 1)) fun h11 =>
      lt (up h11 0 15 ((h11.1 0 15) - 1)) fun h12 =>
      lt (up h12 0 11 ((h12.1 0 11) + 1)) fun h13 =>
      if (h13.1 0 17) ≠ 0 then
        (cl (xX11_endsPiece N h13) fun t14 h15 =>
        (xX11_readsCondition_92 N K40 n) h15)
      else
        (zok 1 (some (1, h13))))
def xX11_readsCondition_40 (N : Nat) : Nat → HP → Option (Int32 × HP)
  | 0 => fun _ => none
  | n + 1 => fun h =>
    cl (xX11_here h) fun t1 h2 =>
    if t1 = (33 : Int32) then
      (xX11_readsCondition_58 N (xX11_readsCondition_40 N n) h2)
    else
      (cl (xX11_here h2) fun t3 h4 =>
      if t3 ≠ (40 : Int32) then
        (cl (xX11_readsCompared N h4) fun t5 h6 =>
        if t5 ≠ 0 then
          (xX11_readsCondition_92 N (xX11_readsCondition_40 N n) N h6)
        else
          (zok 0 (some (0, h6))))
      else
        (xX11_readsCondition_58 N (xX11_readsCondition_40 N n) h4))
def xX11_readsCondition (N : Nat) (h : HP) : Option (Int32 × HP) :=
  cl (xX11_here h) fun t1 h2 =>
  if t1 = (40 : Int32) then
    (lt (up h2 0 15 0) fun h3 =>
    lt (up h3 0 17 0) fun h4 =>
    cl (xX11_opens 13 h4) fun t5 h6 =>
    if t5 ≠ 0 then
      (xX11_readsCondition_40 N N h6)
    else
      (zok 0 (some (0, h6))))
  else
    (cl (xX11_wrongAt 1 (h2.1 0 11) h2) fun t7 h8 =>
    zok t7 (some (t7, h8)))
def xX11_readsRule_110 (N : Nat) (h : HP) : Option (Int32 × HP) :=
  ast h 13 16 (h.1 0 18) (h.1 0 16) fun h1 =>
  cl (xX11_readsCondition N h1) fun t2 h3 =>
  if t2 ≠ 0 then
    (ast h3 14 16 (h3.1 0 18) (h3.1 0 16) fun h4 =>
    lt (up h4 0 18 ((h4.1 0 18) + 1)) fun h5 =>
    zok 1 (some (1, h5)))
  else
    (zok 0 (some (0, h3)))
def xX11_readsRule_33 (N : Nat) (a1 : Int32) (h : HP) : Option (Int32 × HP) :=
  if (h.1 0 18) ≠ (16 : Int32) then
    (ast h 11 16 (h.1 0 18) a1 fun h1 =>
    lt (up h1 0 11 ((h1.1 0 11) + 1)) fun h2 =>
    ast h2 12 16 (h2.1 0 18) (h2.1 0 16) fun h3 =>
    lt (up h3 0 15 0) fun h4 =>
    lt (up h4 0 17 0) fun h5 =>
    if a1 = (120 : Int32) then
      (xX11_readsRule_110 N h5)
    else
      (cl (xX11_readsSum N h5) fun t6 h7 =>
      if t6 ≠ 0 then
        (xX11_readsRule_110 N h7)
      else
        (zok 0 (some (0, h7)))))
  else
    (cl (xX11_wrongAt 4 (h.1 0 11) h) fun t8 h9 =>
    zok t8 (some (t8, h9)))
def xX11_readsRule (N : Nat) (h : HP) : Option (Int32 × HP) :=
  cl (xX11_here h) fun t1 h2 =>
  if t1 = (114 : Int32) then
    (xX11_readsRule_33 N t1 h2)
  else
    (if t1 = (111 : Int32) then
      (xX11_readsRule_33 N t1 h2)
    else
      (if t1 = (120 : Int32) then
        (xX11_readsRule_33 N t1 h2)
      else
        (cl (xX11_wrongAt 1 (h2.1 0 11) h2) fun t3 h4 =>
        zok t3 (some (t3, h4)))))
def xX11_beginsText (a1 : Int32) (h : HP) : Option (Int32 × HP) :=
  lt (up h 0 11 0) fun h1 =>
  lt (up h1 0 12 a1) fun h2 =>
  lt (up h2 0 16 0) fun h3 =>
  lt (up h3 0 18 0) fun h4 =>
  some (0, h4)
def xX11_law_19 (N : Nat) (h : HP) : Option (Int32 × HP) :=
  some ((-1), h)
def xX11_law_67 (N : Nat) (K31 : Int32 → HP → Option (Int32 × HP)) (s0 : Int32) (h : HP) : Option (Int32 × HP) :=
  K31 s0 h
def xX11_law_66 (N : Nat) (K31 : Int32 → HP → Option (Int32 × HP)) (h : HP) : Option (Int32 × HP) :=
  xX11_law_67 N K31 0 h
def xX11_law_123 (N : Nat) : Nat → Int32 → HP → Option (Int32 × HP)
  | 0 => fun _ _ => none
  | n + 1 => fun a3 h =>
    if (h.1 0 18) ≤ a3 then
      (some (h.1 0 18, h))
    else
      (ald h 11 16 a3 fun t1 =>
      ast h 16 16 a3 t1 fun h2 =>
      ald h2 12 16 a3 fun t3 =>
      ast h2 17 16 a3 t3 fun h4 =>
      ald h4 13 16 a3 fun t5 =>
      ast h4 18 16 a3 t5 fun h6 =>
      ald h6 14 16 a3 fun t7 =>
      ast h6 19 16 a3 t7 fun h8 =>
      lt (a3 + 1) fun v9 =>
      (xX11_law_123 N n) v9 h8)
def xX11_law_95 (N : Nat) : Nat → Int32 → HP → Option (Int32 × HP)
  | 0 => fun _ _ => none
  | n + 1 => fun a3 h =>
    if (h.1 0 16) ≤ a3 then
      (xX11_law_123 N N 0 h)
    else
      (ald h 9 260 a3 fun t1 =>
      ast h 15 260 a3 t1 fun h2 =>
      lt (a3 + 1) fun v3 =>
      (xX11_law_95 N n) v3 h2)
def xX11_law_71 (N : Nat) (a2 : Int32) (h : HP) : Option (Int32 × HP) :=
  lt (up h 0 10 0) fun h1 =>
  if a2 ≠ 0 then
    (lt (up h1 0 19 (h1.1 0 18)) fun h2 =>
    xX11_law_95 N N 0 h2)
  else
    (some (h1.1 0 13, h1))
def xX11_law_31 (N : Nat) : Nat → Int32 → HP → Option (Int32 × HP)
  | 0 => fun _ _ => none
  | n + 1 => fun a2 h =>
    if a2 = 0 then
      (xX11_law_71 N a2 h)
    else
      (if (h.1 0 12) ≤ (h.1 0 11) then
        (xX11_law_71 N a2 h)
      else
        (cl (xX11_takes 59 h) fun t1 h2 =>
        if t1 = 0 then
          (xX11_law_66 N (xX11_law_31 N n) h2)
        else
          (cl (xX11_readsRule N h2) fun t3 h4 =>
          if t3 = 0 then
            (xX11_law_66 N (xX11_law_31 N n) h4)
          else
            (xX11_law_67 N (xX11_law_31 N n) 1 h4))))
def xX11_law (N : Nat) (a1 : Int32) (h : HP) : Option (Int32 × HP) :=
  cl (xX11_in a1 1 240 h) fun t1 h2 =>
  if t1 = 0 then
    (xX11_law_19 N h2)
  else
    (if a1 ≤ (h2.1 0 10) then
      (cl (xX11_beginsText a1 h2) fun t3 h4 =>
      cl (xX11_readsRule N h4) fun t5 h6 =>
      xX11_law_31 N N t5 h6)
    else
      (xX11_law_19 N h2))
def xX11_reckon_74 (s0 : Int32) (h : HP) : Option (Int32 × HP) :=
  some (s0, h)
def xX11_reckon_85 (s0 : Int32) (h : HP) : Option (Int32 × HP) :=
  some (s0, h)
def xX11_reckon_96 (s0 : Int32) (h : HP) : Option (Int32 × HP) :=
  some (s0, h)
def xX11_reckon (a0 : Int32) (a1 : Int32) (a2 : Int32) (h : HP) : Option (Int32 × HP) :=
  if a0 = 2 then
    (some (a1 + a2, h))
  else if a0 = 3 then
    (some (a1 - a2, h))
  else if a0 = 4 then
    (some (a1 * a2, h))
  else if a0 = 5 then
    (dvd a1 a2 fun t1 =>
    some (t1, h))
  else if a0 = 6 then
    (rmd a1 a2 fun t2 =>
    some (t2, h))
  else if a0 = 7 then
    (if a2 ≤ a1 then
      (xX11_reckon_74 0 h)
    else
      (xX11_reckon_74 1 h))
  else if a0 = 8 then
    (if a1 ≤ a2 then
      (xX11_reckon_85 0 h)
    else
      (xX11_reckon_85 1 h))
  else (if a1 ≠ a2 then
    (xX11_reckon_96 0 h)
  else
    (xX11_reckon_96 1 h))
def xX11_reckonsTo_230 (N : Nat) (K16 : Int32 → Int32 → Int32 → Int32 → HP → Option (Int32 × HP)) (a2 : Int32) (a3 : Int32) (a4 : Int32) (a5 : Int32) (h : HP) : Option (Int32 × HP) :=
  K16 a2 a3 a4 a5 h
def xX11_reckonsTo_85 (N : Nat) (K16 : Int32 → Int32 → Int32 → Int32 → HP → Option (Int32 × HP)) (a2 : Int32) (a3 : Int32) (a4 : Int32) (a5 : Int32) (s1 : Int32) (s2 : Int32) (h : HP) : Option (Int32 × HP) :=
  ast h 20 260 s1 s2 fun h1 =>
  lt (a3 + 1) fun v2 =>
  xX11_reckonsTo_230 N K16 a2 v2 a4 a5 h1
def xX11_reckonsTo_63 (N : Nat) (K16 : Int32 → Int32 → Int32 → Int32 → HP → Option (Int32 × HP)) (a2 : Int32) (a3 : Int32) (a4 : Int32) (a5 : Int32) (a6 : Int32) (a7 : Int32) (h : HP) : Option (Int32 × HP) :=
  if a6 ≠ 0 then
    (ald h 21 10 a7 fun t1 =>
    xX11_reckonsTo_85 N K16 a2 a3 a4 a5 a3 t1 h)
  else
    (xX11_reckonsTo_85 N K16 a2 a3 a4 a5 a3 a7 h)
def xX11_reckonsTo_155 (N : Nat) (K16 : Int32 → Int32 → Int32 → Int32 → HP → Option (Int32 × HP)) (a2 : Int32) (a3 : Int32) (a4 : Int32) (a5 : Int32) (a7 : Int32) (s0 : Int32) (s1 : Int32) (h : HP) : Option (Int32 × HP) :=
  if s0 ≠ s1 then
    (lt (a3 - 1) fun v1 =>
    xX11_reckonsTo_230 N K16 a2 v1 a4 a5 h)
  else
    (lt (a4 + a7) fun v2 =>
    xX11_reckonsTo_230 N K16 a2 a3 a4 v2 h)
def xX11_reckonsTo_135 (N : Nat) (K16 : Int32 → Int32 → Int32 → Int32 → HP → Option (Int32 × HP)) (a2 : Int32) (a3 : Int32) (a4 : Int32) (a5 : Int32) (a6 : Int32) (a7 : Int32) (h : HP) : Option (Int32 × HP) :=
  ald h 20 260 (a3 - 1) fun t1 =>
  if a6 ≠ (12 : Int32) then
    (xX11_reckonsTo_155 N K16 a2 a3 a4 a5 a7 t1 0 h)
  else
    (xX11_reckonsTo_155 N K16 a2 a3 a4 a5 a7 t1 1 h)
def xX11_reckonsTo_203 (N : Nat) (K16 : Int32 → Int32 → Int32 → Int32 → HP → Option (Int32 × HP)) (a2 : Int32) (a3 : Int32) (a4 : Int32) (a5 : Int32) (a6 : Int32) (h : HP) : Option (Int32 × HP) :=
  ald h 20 260 (a3 - 1) fun t1 =>
  ald h 20 260 a3 fun t2 =>
  cl (xX11_reckon a6 t1 t2 h) fun t3 h4 =>
  ast h4 20 260 (a3 - 1) t3 fun h5 =>
  xX11_reckonsTo_230 N K16 a2 a3 a4 a5 h5
def xX11_reckonsTo_192 (N : Nat) (K16 : Int32 → Int32 → Int32 → Int32 → HP → Option (Int32 × HP)) (a2 : Int32) (a3 : Int32) (a4 : Int32) (a5 : Int32) (a6 : Int32) (h : HP) : Option (Int32 × HP) :=
  ald h 20 260 a3 fun t1 =>
  if t1 ≠ 0 then
    (xX11_reckonsTo_203 N K16 a2 a3 a4 a5 a6 h)
  else
    (some (0, h))
def xX11_reckonsTo_16 (N : Nat) : Nat → Int32 → Int32 → Int32 → Int32 → HP → Option (Int32 × HP)
  | 0 => fun _ _ _ _ _ => none
  | n + 1 => fun a2 a3 a4 a5 h =>
    if a2 ≤ a5 then
      (ald h 20 260 0 fun t1 =>
      some (t1, h))
    else
      (ald h 15 260 a5 fun t2 =>
      lt (t2 / 1048576) fun v3 =>
      ald h 15 260 a5 fun t4 =>
      lt (irem t4 1048576) fun v5 =>
      lt (a5 + 1) fun v6 =>
      if v3 = 0 then
        (xX11_reckonsTo_63 N (xX11_reckonsTo_16 N n) a2 a3 a4 v6 v3 v5 h)
      else
        (if v3 ≠ (1 : Int32) then
          (if v3 ≠ (10 : Int32) then
            (if v3 = (11 : Int32) then
              (xX11_reckonsTo_135 N (xX11_reckonsTo_16 N n) a2 a3 a4 v6 v3 v5 h)
            else
              (if v3 ≠ (12 : Int32) then
                (lt (a3 - 1) fun v7 =>
                if v3 = (5 : Int32) then
                  (xX11_reckonsTo_192 N (xX11_reckonsTo_16 N n) a2 v7 a4 v6 v3 h)
                else
                  (if v3 ≠ (6 : Int32) then
                    (xX11_reckonsTo_203 N (xX11_reckonsTo_16 N n) a2 v7 a4 v6 v3 h)
                  else
                    (xX11_reckonsTo_192 N (xX11_reckonsTo_16 N n) a2 v7 a4 v6 v3 h)))
              else
                (xX11_reckonsTo_135 N (xX11_reckonsTo_16 N n) a2 a3 a4 v6 v3 v5 h)))
          else
            (ald h 20 260 (a3 - 1) fun t8 =>
            ast h 20 260 (a3 - 1) (1 - t8) fun h9 =>
            xX11_reckonsTo_230 N (xX11_reckonsTo_16 N n) a2 a3 a4 v6 h9))
        else
          (xX11_reckonsTo_63 N (xX11_reckonsTo_16 N n) a2 a3 a4 v6 v3 v5 h)))
def xX11_reckonsTo (N : Nat) (a1 : Int32) (a2 : Int32) (h : HP) : Option (Int32 × HP) :=
  lt (260 * (a1 / 260)) fun v1 =>
  xX11_reckonsTo_16 N N a2 0 v1 a1 h
def xX11_byLaw_80 (N : Nat) (s0 : Int32) (h : HP) : Option (Int32 × HP) :=
  some (s0, h)
def xX11_byLaw_81 (N : Nat) (K2 : Int32 → Int32 → HP → Option (Int32 × HP)) (a1 : Int32) (a2 : Int32) (h : HP) : Option (Int32 × HP) :=
  lt (a2 + 1) fun v1 =>
  K2 a1 v1 h
def xX11_byLaw_2 (N : Nat) : Nat → Int32 → Int32 → HP → Option (Int32 × HP)
  | 0 => fun _ _ _ => none
  | n + 1 => fun a1 a2 h =>
    if (h.1 0 19) ≤ a2 then
      (some (1, h))
    else
      (ald h 16 16 a2 fun t1 =>
      if t1 ≠ a1 then
        (xX11_byLaw_81 N (xX11_byLaw_2 N n) a1 a2 h)
      else
        (ald h 18 16 a2 fun t2 =>
        ald h 19 16 a2 fun t3 =>
        cl (xX11_reckonsTo N t2 t3 h) fun t4 h5 =>
        if t4 = (1 : Int32) then
          (ald h5 17 16 a2 fun t6 =>
          ald h5 18 16 a2 fun t7 =>
          cl (xX11_reckonsTo N t6 t7 h5) fun t8 h9 =>
          if 0 ≤ t8 then
            (if t8 ≤ (99 : Int32) then
              (xX11_byLaw_80 N t8 h9)
            else
              (xX11_byLaw_80 N 99 h9))
          else
            (xX11_byLaw_80 N 0 h9))
        else
          (xX11_byLaw_81 N (xX11_byLaw_2 N n) a1 a2 h5)))
def xX11_byLaw (N : Nat) (a1 : Int32) (h : HP) : Option (Int32 × HP) :=
  xX11_byLaw_2 N N a1 0 h
def xX11_holdsAny_42 (N : Nat) (K2 : Int32 → Int32 → HP → Option (Int32 × HP)) (a1 : Int32) (a2 : Int32) (h : HP) : Option (Int32 × HP) :=
  lt (a2 + 1) fun v1 =>
  K2 a1 v1 h
def xX11_holdsAny_2 (N : Nat) : Nat → Int32 → Int32 → HP → Option (Int32 × HP)
  | 0 => fun _ _ _ => none
  | n + 1 => fun a1 a2 h =>
    if (h.1 0 19) ≤ a2 then
      (zok 0 (some (0, h)))
    else
      (ald h 16 16 a2 fun t1 =>
      if t1 ≠ a1 then
        (xX11_holdsAny_42 N (xX11_holdsAny_2 N n) a1 a2 h)
      else
        (ald h 18 16 a2 fun t2 =>
        ald h 19 16 a2 fun t3 =>
        cl (xX11_reckonsTo N t2 t3 h) fun t4 h5 =>
        if t4 ≠ (1 : Int32) then
          (xX11_holdsAny_42 N (xX11_holdsAny_2 N n) a1 a2 h5)
        else
          (zok 1 (some (1, h5)))))
def xX11_holdsAny (N : Nat) (a1 : Int32) (h : HP) : Option (Int32 × HP) :=
  xX11_holdsAny_2 N N a1 0 h
def xX11_isLetter (h : HP) : Option (Int32 × HP) :=
  cl (xX11_here h) fun t1 h2 =>
  cl (xX11_in (t1 - 97) 0 15 h2) fun t3 h4 =>
  zok t3 (some (t3, h4))
def xX11_readsAmount_27 (N : Nat) : Nat → Int32 → Int32 → HP → Option (Int32 × HP)
  | 0 => fun _ _ _ => none
  | n + 1 => fun a1 a2 h =>
    cl (xX11_isDigit h) fun t1 h2 =>
    if t1 = 0 then
      (zok 1 (some (1, h2)))
    else
      (if (h2.1 0 11) ≠ (a2 + a1) then
        (cl (xX11_here h2) fun t3 h4 =>
        lt (up h4 0 14 (((10 * (h2.1 0 14)) + t3) - 48)) fun h5 =>
        lt (up h5 0 11 ((h5.1 0 11) + 1)) fun h6 =>
        (xX11_readsAmount_27 N n) a1 a2 h6)
      else
        (cl (xX11_wrongAt 2 (h2.1 0 11) h2) fun t7 h8 =>
        zok t7 (some (t7, h8))))
def xX11_readsAmount (N : Nat) (a1 : Int32) (h : HP) : Option (Int32 × HP) :=
  lt (h.1 0 11) fun v1 =>
  cl (xX11_isDigit h) fun t2 h3 =>
  if t2 ≠ 0 then
    (lt (up h3 0 14 0) fun h4 =>
    xX11_readsAmount_27 N N a1 v1 h4)
  else
    (cl (xX11_wrongAt 1 (h3.1 0 11) h3) fun t5 h6 =>
    zok t5 (some (t5, h6)))
def xX11_readsRoad (N : Nat) (a1 : Int32) (h : HP) : Option (Int32 × HP) :=
  if (h.1 0 38) ≠ (24 : Int32) then
    (lt (up h 0 11 ((h.1 0 11) + 1)) fun h1 =>
    cl (xX11_isLetter h1) fun t2 h3 =>
    if t2 ≠ 0 then
      (cl (xX11_here h3) fun t4 h5 =>
      lt (t4 - 97) fun v6 =>
      if v6 ≠ a1 then
        (lt (up h5 0 11 ((h5.1 0 11) + 1)) fun h7 =>
        lt (h7.1 0 11) fun v8 =>
        cl (xX11_readsAmount N 2 h7) fun t9 h10 =>
        if t9 ≠ 0 then
          (if (h10.1 0 14) ≠ 0 then
            (lt (up h10 0 37 ((h10.1 0 37) ||| (1 <<< (v6 &&& 31)))) fun h11 =>
            ast h11 23 24 (h11.1 0 38) a1 fun h12 =>
            ast h12 24 24 (h12.1 0 38) v6 fun h13 =>
            ast h13 25 24 (h13.1 0 38) (h13.1 0 14) fun h14 =>
            lt (up h14 0 38 ((h14.1 0 38) + 1)) fun h15 =>
            zok 1 (some (1, h15)))
          else
            (cl (xX11_wrongAt 3 v8 h10) fun t16 h17 =>
            zok t16 (some (t16, h17))))
        else
          (zok 0 (some (0, h10))))
      else
        (cl (xX11_wrongAt 6 (h5.1 0 11) h5) fun t18 h19 =>
        zok t18 (some (t18, h19))))
    else
      (cl (xX11_wrongAt 1 (h3.1 0 11) h3) fun t20 h21 =>
      zok t20 (some (t20, h21))))
  else
    (cl (xX11_wrongAt 5 (h.1 0 11) h) fun t22 h23 =>
    zok t22 (some (t22, h23)))
def xX11_readsTownLine_117 (N : Nat) : Nat → Int32 → HP → Option (Int32 × HP)
  | 0 => fun _ _ => none
  | n + 1 => fun a1 h =>
    cl (xX11_here h) fun t1 h2 =>
    if t1 ≠ (45 : Int32) then
      (zok 1 (some (1, h2)))
    else
      (cl (xX11_readsRoad N a1 h2) fun t3 h4 =>
      if t3 ≠ 0 then
        (ald h4 24 24 ((h4.1 0 38) - 1) fun t5 =>
        (xX11_readsTownLine_117 N n) t5 h4)
      else
        (zok 0 (some (0, h4))))
def xX11_readsTownLine (N : Nat) (h : HP) : Option (Int32 × HP) :=
  cl (xX11_isLetter h) fun t1 h2 =>
  if t1 ≠ 0 then
    (if (h2.1 0 39) ≠ (24 : Int32) then
      (lt (up h2 0 39 ((h2.1 0 39) + 1)) fun h3 =>
      cl (xX11_here h3) fun t4 h5 =>
      lt (t4 - 97) fun v6 =>
      lt (up h5 0 11 ((h5.1 0 11) + 1)) fun h7 =>
      lt (up h7 0 37 ((h7.1 0 37) ||| (1 <<< (v6 &&& 31)))) fun h8 =>
      cl (xX11_here h8) fun t9 h10 =>
      if t9 ≠ (61 : Int32) then
        (xX11_readsTownLine_117 N N v6 h10)
      else
        (lt (up h10 0 11 ((h10.1 0 11) + 1)) fun h11 =>
        cl (xX11_readsAmount N 2 h11) fun t12 h13 =>
        if t12 ≠ 0 then
          (ast h13 22 16 v6 (h13.1 0 14) fun h14 =>
          zok 1 (some (1, h14)))
        else
          (zok 0 (some (0, h13)))))
    else
      (cl (xX11_wrongAt 4 (h2.1 0 11) h2) fun t15 h16 =>
      zok t15 (some (t15, h16))))
  else
    (cl (xX11_wrongAt 1 (h2.1 0 11) h2) fun t17 h18 =>
    zok t17 (some (t17, h18)))
def xX11_town_19 (N : Nat) (h : HP) : Option (Int32 × HP) :=
  some ((-1), h)
def xX11_town_103 (N : Nat) (K67 : Int32 → HP → Option (Int32 × HP)) (s0 : Int32) (h : HP) : Option (Int32 × HP) :=
  K67 s0 h
def xX11_town_102 (N : Nat) (K67 : Int32 → HP → Option (Int32 × HP)) (h : HP) : Option (Int32 × HP) :=
  xX11_town_103 N K67 0 h
def xX11_town_194 (N : Nat) : Nat → Int32 → HP → Option (Int32 × HP)
  | 0 => fun _ _ => none
  | n + 1 => fun a3 h =>
    if (h.1 0 8) ≤ a3 then
      (some (h.1 0 8, h))
    else
      (ald h 23 24 a3 fun t1 =>
      ast h 5 24 a3 t1 fun h2 =>
      ald h2 24 24 a3 fun t3 =>
      ast h2 6 24 a3 t3 fun h4 =>
      ald h4 25 24 a3 fun t5 =>
      ast h4 7 24 a3 t5 fun h6 =>
      ast h6 1 75 (48 + a3) 1 fun h7 =>
      lt (a3 + 1) fun v8 =>
      (xX11_town_194 N n) v8 h7)
def xX11_town_139 (N : Nat) : Nat → Int32 → HP → Option (Int32 × HP)
  | 0 => fun _ _ => none
  | n + 1 => fun a3 h =>
    if (16 : Int32) ≤ a3 then
      (xX11_town_194 N N 0 h)
    else
      (ald h 22 16 a3 fun t1 =>
      ast h 4 16 a3 t1 fun h2 =>
      ast h2 1 75 (0 + a3) 0 fun h3 =>
      ast h3 1 75 (16 + a3) 0 fun h4 =>
      ast h4 1 75 (32 + a3) 0 fun h5 =>
      lt (a3 + 1) fun v6 =>
      (xX11_town_139 N n) v6 h5)
def xX11_town_107 (N : Nat) (a2 : Int32) (h : HP) : Option (Int32 × HP) :=
  lt (up h 0 10 0) fun h1 =>
  if a2 ≠ 0 then
    (lt (up h1 0 7 (h1.1 0 37)) fun h2 =>
    lt (up h2 0 8 (h2.1 0 38)) fun h3 =>
    xX11_town_139 N N 0 h3)
  else
    (some (h1.1 0 13, h1))
def xX11_town_67 (N : Nat) : Nat → Int32 → HP → Option (Int32 × HP)
  | 0 => fun _ _ => none
  | n + 1 => fun a2 h =>
    if a2 = 0 then
      (xX11_town_107 N a2 h)
    else
      (if (h.1 0 12) ≤ (h.1 0 11) then
        (xX11_town_107 N a2 h)
      else
        (cl (xX11_takes 59 h) fun t1 h2 =>
        if t1 = 0 then
          (xX11_town_102 N (xX11_town_67 N n) h2)
        else
          (cl (xX11_readsTownLine N h2) fun t3 h4 =>
          if t3 = 0 then
            (xX11_town_102 N (xX11_town_67 N n) h4)
          else
            (xX11_town_103 N (xX11_town_67 N n) 1 h4))))
def xX11_town_43 (N : Nat) : Nat → Int32 → HP → Option (Int32 × HP)
  | 0 => fun _ _ => none
  | n + 1 => fun a2 h =>
    if (16 : Int32) ≤ a2 then
      (cl (xX11_readsTownLine N h) fun t1 h2 =>
      xX11_town_67 N N t1 h2)
    else
      (ast h 22 16 a2 0 fun h3 =>
      lt (a2 + 1) fun v4 =>
      (xX11_town_43 N n) v4 h3)
def xX11_town (N : Nat) (a1 : Int32) (h : HP) : Option (Int32 × HP) :=
  cl (xX11_in a1 1 160 h) fun t1 h2 =>
  if t1 = 0 then
    (xX11_town_19 N h2)
  else
    (if a1 ≤ (h2.1 0 10) then
      (cl (xX11_beginsText a1 h2) fun t3 h4 =>
      lt (up h4 0 37 0) fun h5 =>
      lt (up h5 0 38 0) fun h6 =>
      lt (up h6 0 39 0) fun h7 =>
      xX11_town_43 N N 0 h7)
    else
      (xX11_town_19 N h2))
def xX11_readsCornerLine_189 (N : Nat) (s1 : Int32) (s2 : Int32) (s3 : Int32) (s4 : Int32) (s5 : Int32) (h : HP) : Option (Int32 × HP) :=
  cl (xX11_min s3 (s4 + s5) h) fun t1 h2 =>
  cl (xX11_max s2 t1 h2) fun t3 h4 =>
  ast h4 1 75 s1 t3 fun h5 =>
  zok 1 (some (1, h5))
def xX11_readsCornerLine_132 (N : Nat) (a1 : Int32) (a2 : Int32) (h : HP) : Option (Int32 × HP) :=
  lt (up h 0 11 ((h.1 0 11) + 1)) fun h1 =>
  cl (xX11_readsAmount N 4 h1) fun t2 h3 =>
  if t2 ≠ 0 then
    (ald h3 1 75 (0 + a1) fun t4 =>
    if a2 ≠ (43 : Int32) then
      (xX11_readsCornerLine_189 N (0 + a1) 0 9999 t4 (-(h3.1 0 14)) h3)
    else
      (xX11_readsCornerLine_189 N (0 + a1) 0 9999 t4 (h3.1 0 14) h3))
  else
    (zok 0 (some (0, h3)))
def xX11_readsCornerLine (N : Nat) (h : HP) : Option (Int32 × HP) :=
  cl (xX11_here h) fun t1 h2 =>
  lt (t1 - 97) fun v3 =>
  cl (xX11_isTold v3 h2) fun t4 h5 =>
  if t4 ≠ 0 then
    (lt (up h5 0 11 ((h5.1 0 11) + 1)) fun h6 =>
    cl (xX11_here h6) fun t7 h8 =>
    if t7 ≠ (64 : Int32) then
      (if t7 = (43 : Int32) then
        (xX11_readsCornerLine_132 N v3 t7 h8)
      else
        (if t7 = (45 : Int32) then
          (xX11_readsCornerLine_132 N v3 t7 h8)
        else
          (cl (xX11_wrongAt 1 (h8.1 0 11) h8) fun t9 h10 =>
          zok t9 (some (t9, h10)))))
    else
      (lt (up h8 0 11 ((h8.1 0 11) + 1)) fun h11 =>
      cl (xX11_here h11) fun t12 h13 =>
      cl (xX11_in t12 48 56 h13) fun t14 h15 =>
      if t14 ≠ 0 then
        (cl (xX11_here h15) fun t16 h17 =>
        ast h17 1 75 (16 + v3) (t16 - 48) fun h18 =>
        lt (up h18 0 11 ((h18.1 0 11) + 1)) fun h19 =>
        zok 1 (some (1, h19)))
      else
        (cl (xX11_wrongAt 1 (h15.1 0 11) h15) fun t20 h21 =>
        zok t20 (some (t20, h21)))))
  else
    (cl (xX11_wrongAt 7 (h5.1 0 11) h5) fun t22 h23 =>
    zok t22 (some (t22, h23)))
def xX11_readsPipeLine_87 (N : Nat) (s1 : Int32) (s2 : Int32) (h : HP) : Option (Int32 × HP) :=
  ast h 1 75 s1 s2 fun h1 =>
  lt (up h1 0 11 ((h1.1 0 11) + 1)) fun h2 =>
  zok 1 (some (1, h2))
def xX11_readsPipeLine_62 (N : Nat) (h : HP) : Option (Int32 × HP) :=
  cl (xX11_here h) fun t1 h2 =>
  if t1 ≠ (63 : Int32) then
    (xX11_readsPipeLine_87 N (48 + (h.1 0 14)) 0 h2)
  else
    (xX11_readsPipeLine_87 N (48 + (h.1 0 14)) 1 h2)
def xX11_readsPipeLine (N : Nat) (h : HP) : Option (Int32 × HP) :=
  lt (h.1 0 11) fun v1 =>
  cl (xX11_readsAmount N 2 h) fun t2 h3 =>
  if t2 ≠ 0 then
    (if (h3.1 0 14) < (h3.1 0 8) then
      (cl (xX11_here h3) fun t4 h5 =>
      if t4 = (33 : Int32) then
        (xX11_readsPipeLine_62 N h5)
      else
        (cl (xX11_here h5) fun t6 h7 =>
        if t6 = (63 : Int32) then
          (xX11_readsPipeLine_62 N h7)
        else
          (cl (xX11_wrongAt 1 (h7.1 0 11) h7) fun t8 h9 =>
          zok t8 (some (t8, h9)))))
    else
      (cl (xX11_wrongAt 7 v1 h3) fun t10 h11 =>
      zok t10 (some (t10, h11))))
  else
    (zok 0 (some (0, h3)))
def xX11_readsOrder_34 (N : Nat) (a1 : Int32) (h : HP) : Option (Int32 × HP) :=
  if (h.1 0 39) ≠ (20 : Int32) then
    (lt (up h 0 39 ((h.1 0 39) + 1)) fun h1 =>
    cl (xX11_isLetter h1) fun t2 h3 =>
    if t2 = 0 then
      (lt (up h3 0 11 ((h3.1 0 11) + 1)) fun h4 =>
      if a1 ≠ (35 : Int32) then
        (cl (xX11_readsAmount N 6 h4) fun t5 h6 =>
        if t5 ≠ 0 then
          (ast h6 1 75 72 (h6.1 0 14) fun h7 =>
          zok 1 (some (1, h7)))
        else
          (zok 0 (some (0, h6))))
      else
        (cl (xX11_readsPipeLine N h4) fun t8 h9 =>
        zok t8 (some (t8, h9))))
    else
      (cl (xX11_readsCornerLine N h3) fun t10 h11 =>
      zok t10 (some (t10, h11))))
  else
    (cl (xX11_wrongAt 4 (h.1 0 11) h) fun t12 h13 =>
    zok t12 (some (t12, h13)))
def xX11_readsOrder (N : Nat) (h : HP) : Option (Int32 × HP) :=
  cl (xX11_here h) fun t1 h2 =>
  cl (xX11_isLetter h2) fun t3 h4 =>
  if t3 ≠ 0 then
    (xX11_readsOrder_34 N t1 h4)
  else
    (if t1 = (35 : Int32) then
      (xX11_readsOrder_34 N t1 h4)
    else
      (if t1 = (126 : Int32) then
        (xX11_readsOrder_34 N t1 h4)
      else
        (cl (xX11_wrongAt 1 (h4.1 0 11) h4) fun t5 h6 =>
        zok t5 (some (t5, h6)))))
def xX11_orders_18 (N : Nat) (h : HP) : Option (Int32 × HP) :=
  some ((-1), h)
def xX11_orders_82 (N : Nat) (K46 : Int32 → HP → Option (Int32 × HP)) (s0 : Int32) (h : HP) : Option (Int32 × HP) :=
  K46 s0 h
def xX11_orders_81 (N : Nat) (K46 : Int32 → HP → Option (Int32 × HP)) (h : HP) : Option (Int32 × HP) :=
  xX11_orders_82 N K46 0 h
def xX11_orders_86 (N : Nat) (a2 : Int32) (h : HP) : Option (Int32 × HP) :=
  lt (up h 0 10 0) fun h1 =>
  if a2 = 0 then
    (cl (xX11_copies N 2 1 h1) fun t2 h3 =>
    some (h3.1 0 13, h3))
  else
    (some (h1.1 0 39, h1))
def xX11_orders_46 (N : Nat) : Nat → Int32 → HP → Option (Int32 × HP)
  | 0 => fun _ _ => none
  | n + 1 => fun a2 h =>
    if a2 = 0 then
      (xX11_orders_86 N a2 h)
    else
      (if (h.1 0 12) ≤ (h.1 0 11) then
        (xX11_orders_86 N a2 h)
      else
        (cl (xX11_takes 59 h) fun t1 h2 =>
        if t1 = 0 then
          (xX11_orders_81 N (xX11_orders_46 N n) h2)
        else
          (cl (xX11_readsOrder N h2) fun t3 h4 =>
          if t3 = 0 then
            (xX11_orders_81 N (xX11_orders_46 N n) h4)
          else
            (xX11_orders_82 N (xX11_orders_46 N n) 1 h4))))
def xX11_orders (N : Nat) (a1 : Int32) (h : HP) : Option (Int32 × HP) :=
  cl (xX11_in a1 1 120 h) fun t1 h2 =>
  if t1 = 0 then
    (xX11_orders_18 N h2)
  else
    (if a1 ≤ (h2.1 0 10) then
      (cl (xX11_beginsText a1 h2) fun t3 h4 =>
      lt (up h4 0 39 0) fun h5 =>
      cl (xX11_copies N 1 2 h5) fun t6 h7 =>
      cl (xX11_readsOrder N h7) fun t8 h9 =>
      xX11_orders_46 N N t8 h9)
    else
      (xX11_orders_18 N h2))
def xX11_mostBeyond_35 (N : Nat) (K4 : Int32 → Int32 → Int32 → HP → Option (Int32 × HP)) (a1 : Int32) (a2 : Int32) (a3 : Int32) (h : HP) : Option (Int32 × HP) :=
  lt (a3 + 1) fun v1 =>
  K4 a1 a2 v1 h
def xX11_mostBeyond_4 (N : Nat) : Nat → Int32 → Int32 → Int32 → HP → Option (Int32 × HP)
  | 0 => fun _ _ _ _ => none
  | n + 1 => fun a1 a2 a3 h =>
    if (16 : Int32) ≤ a3 then
      (some (a2, h))
    else
      (cl (xX11_nextTo N a1 h) fun t1 h2 =>
      cl (xX11_has t1 a3 h2) fun t3 h4 =>
      if t3 = 0 then
        (xX11_mostBeyond_35 N (xX11_mostBeyond_4 N n) a1 a2 a3 h4)
      else
        (ald h4 1 75 (0 + a3) fun t5 =>
        cl (xX11_max a2 t5 h4) fun t6 h7 =>
        xX11_mostBeyond_35 N (xX11_mostBeyond_4 N n) a1 t6 a3 h7))
def xX11_mostBeyond (N : Nat) (a1 : Int32) (h : HP) : Option (Int32 × HP) :=
  xX11_mostBeyond_4 N N a1 0 0 h
def xX11_feels (N : Nat) (a1 : Int32) (h : HP) : Option (Int32 × HP) :=
  ald h 1 75 74 fun t1 =>
  ast h 1 75 74 (irem ((25173 * t1) + 13849) 65536) fun h2 =>
  ast h2 21 10 0 a1 fun h3 =>
  ald h3 4 16 a1 fun t4 =>
  ast h3 21 10 1 t4 fun h5 =>
  ald h5 1 75 (0 + a1) fun t6 =>
  ast h5 21 10 2 t6 fun h7 =>
  ald h7 1 75 (16 + a1) fun t8 =>
  ast h7 21 10 3 t8 fun h9 =>
  cl (xX11_openOf N a1 h9) fun t10 h11 =>
  ast h11 21 10 4 t10 fun h12 =>
  cl (xX11_mostBeyond N a1 h12) fun t13 h14 =>
  ast h14 21 10 5 t13 fun h15 =>
  ald h15 1 75 (32 + a1) fun t16 =>
  ast h15 21 10 6 (t16 / 100) fun h17 =>
  ald h17 1 75 72 fun t18 =>
  ast h17 21 10 7 (t18 / 100) fun h19 =>
  ald h19 1 75 73 fun t20 =>
  ast h19 21 10 8 (irem t20 100) fun h21 =>
  ald h21 1 75 74 fun t22 =>
  ast h21 21 10 9 (irem t22 10) fun h23 =>
  some (0, h23)
def xX11_rises (N : Nat) (a1 : Int32) (h : HP) : Option (Int32 × HP) :=
  cl (xX11_feels N a1 h) fun t1 h2 =>
  cl (xX11_byLaw N 114 h2) fun t3 h4 =>
  ald h4 1 75 72 fun t5 =>
  ald h4 1 75 (0 + a1) fun t6 =>
  cl (xX11_min t5 (9999 - t6) h4) fun t7 h8 =>
  cl (xX11_min t3 t7 h8) fun t9 h10 =>
  ald h10 1 75 (0 + a1) fun t11 =>
  ast h10 1 75 (0 + a1) (t11 + t9) fun h12 =>
  ald h12 1 75 72 fun t13 =>
  ast h12 1 75 72 (t13 - t9) fun h14 =>
  some (0, h14)
def xX11_levelOf (a1 : Int32) (h : HP) : Option (Int32 × HP) :=
  ald h 4 16 a1 fun t1 =>
  ald h 1 75 (0 + a1) fun t2 =>
  some (t1 + t2, h)
def xX11_levels_38 (a1 : Int32) (s0 : Int32) (h : HP) : Option (Int32 × HP) :=
  ald h 5 24 a1 fun t1 =>
  ald h 6 24 a1 fun t2 =>
  lt ((t1 + t2) - s0) fun v3 =>
  cl (xX11_levelOf s0 h) fun t4 h5 =>
  cl (xX11_levelOf v3 h5) fun t6 h7 =>
  lt ((t4 - t6) / 2) fun v8 =>
  ald h7 7 24 a1 fun t9 =>
  cl (xX11_min t9 v8 h7) fun t10 h11 =>
  ald h11 1 75 (0 + s0) fun t12 =>
  ald h11 1 75 (0 + v3) fun t13 =>
  cl (xX11_min t12 (9999 - t13) h11) fun t14 h15 =>
  cl (xX11_min t10 t14 h15) fun t16 h17 =>
  ald h17 1 75 (0 + s0) fun t18 =>
  ast h17 1 75 (0 + s0) (t18 - t16) fun h19 =>
  ald h19 1 75 (0 + v3) fun t20 =>
  ast h19 1 75 (0 + v3) (t20 + t16) fun h21 =>
  some (0, h21)
def xX11_levels (a1 : Int32) (h : HP) : Option (Int32 × HP) :=
  ald h 5 24 a1 fun t1 =>
  cl (xX11_levelOf t1 h) fun t2 h3 =>
  ald h3 6 24 a1 fun t4 =>
  cl (xX11_levelOf t4 h3) fun t5 h6 =>
  if t2 < t5 then
    (ald h6 6 24 a1 fun t7 =>
    xX11_levels_38 a1 t7 h6)
  else
    (ald h6 5 24 a1 fun t8 =>
    xX11_levels_38 a1 t8 h6)
def xX11_weeps (N : Nat) (a1 : Int32) (h : HP) : Option (Int32 × HP) :=
  cl (xX11_feels N a1 h) fun t1 h2 =>
  cl (xX11_holdsAny N 120 h2) fun t3 h4 =>
  if t3 = 0 then
    (ald h4 1 75 (16 + a1) fun t5 =>
    cl (xX11_byLaw N 111 h4) fun t6 h7 =>
    ald h7 1 75 (0 + a1) fun t8 =>
    cl (xX11_min (t5 * t6) t8 h7) fun t9 h10 =>
    ald h10 1 75 (32 + a1) fun t11 =>
    cl (xX11_min 999999 (t11 + t9) h10) fun t12 h13 =>
    ast h13 1 75 (32 + a1) t12 fun h14 =>
    ald h14 1 75 (0 + a1) fun t15 =>
    ast h14 1 75 (0 + a1) (t15 - t9) fun h16 =>
    lt (up h16 0 40 ((h16.1 0 40) + t9)) fun h17 =>
    some (0, h17))
  else
    (some (0, h4))
def xX11_minuteGoes_21 (N : Nat) (K2 : Int32 → HP → Option (Int32 × HP)) (a1 : Int32) (h : HP) : Option (Int32 × HP) :=
  lt (a1 + 1) fun v1 =>
  K2 v1 h
def xX11_minuteGoes_50 (N : Nat) (K29 : Int32 → HP → Option (Int32 × HP)) (a1 : Int32) (h : HP) : Option (Int32 × HP) :=
  lt (a1 + 1) fun v1 =>
  K29 v1 h
def xX11_minuteGoes_89 (N : Nat) (K58 : Int32 → HP → Option (Int32 × HP)) (a1 : Int32) (h : HP) : Option (Int32 × HP) :=
  lt (a1 + 1) fun v1 =>
  K58 v1 h
def xX11_minuteGoes_58 (N : Nat) : Nat → Int32 → HP → Option (Int32 × HP)
  | 0 => fun _ _ => none
  | n + 1 => fun a1 h =>
    if (16 : Int32) ≤ a1 then
      (ald h 1 75 73 fun t1 =>
      ast h 1 75 73 (t1 + 1) fun h2 =>
      some (0, h2))
    else
      (cl (xX11_isTold a1 h) fun t3 h4 =>
      if t3 = 0 then
        (xX11_minuteGoes_89 N (xX11_minuteGoes_58 N n) a1 h4)
      else
        (ald h4 1 75 (16 + a1) fun t5 =>
        if t5 ≤ 0 then
          (xX11_minuteGoes_89 N (xX11_minuteGoes_58 N n) a1 h4)
        else
          (cl (xX11_weeps N a1 h4) fun t6 h7 =>
          xX11_minuteGoes_89 N (xX11_minuteGoes_58 N n) a1 h7)))
def xX11_minuteGoes_29 (N : Nat) : Nat → Int32 → HP → Option (Int32 × HP)
  | 0 => fun _ _ => none
  | n + 1 => fun a1 h =>
    if (h.1 0 8) ≤ a1 then
      (xX11_minuteGoes_58 N N 0 h)
    else
      (cl (xX11_isOpen a1 h) fun t1 h2 =>
      if t1 = 0 then
        (xX11_minuteGoes_50 N (xX11_minuteGoes_29 N n) a1 h2)
      else
        (cl (xX11_levels a1 h2) fun t3 h4 =>
        xX11_minuteGoes_50 N (xX11_minuteGoes_29 N n) a1 h4))
def xX11_minuteGoes_2 (N : Nat) : Nat → Int32 → HP → Option (Int32 × HP)
  | 0 => fun _ _ => none
  | n + 1 => fun a1 h =>
    if (16 : Int32) ≤ a1 then
      (xX11_minuteGoes_29 N N 0 h)
    else
      (cl (xX11_isTold a1 h) fun t1 h2 =>
      if t1 = 0 then
        (xX11_minuteGoes_21 N (xX11_minuteGoes_2 N n) a1 h2)
      else
        (cl (xX11_rises N a1 h2) fun t3 h4 =>
        xX11_minuteGoes_21 N (xX11_minuteGoes_2 N n) a1 h4))
def xX11_minuteGoes (N : Nat) (h : HP) : Option (Int32 × HP) :=
  xX11_minuteGoes_2 N N 0 h
def xX11_minutesGo_35 (N : Nat) (h : HP) : Option (Int32 × HP) :=
  some (0, h)
def xX11_minutesGo_7 (N : Nat) : Nat → Int32 → Int32 → HP → Option (Int32 × HP)
  | 0 => fun _ _ _ => none
  | n + 1 => fun a1 a2 h =>
    if a1 ≤ a2 then
      (xX11_minutesGo_35 N h)
    else
      (ald h 1 75 73 fun t1 =>
      if (9999 : Int32) ≤ t1 then
        (xX11_minutesGo_35 N h)
      else
        (cl (xX11_minuteGoes N h) fun t2 h3 =>
        lt (a2 + 1) fun v4 =>
        (xX11_minutesGo_7 N n) a1 v4 h3))
def xX11_minutesGo (N : Nat) (a1 : Int32) (h : HP) : Option (Int32 × HP) :=
  lt (up h 0 40 0) fun h1 =>
  xX11_minutesGo_7 N N a1 0 h1
def xX11_minutes (N : Nat) (a1 : Int32) (h : HP) : Option (Int32 × HP) :=
  cl (xX11_in a1 1 100 h) fun t1 h2 =>
  if t1 ≠ 0 then
    (cl (xX11_minutesGo N a1 h2) fun t3 h4 =>
    some (h4.1 0 40, h4))
  else
    (some ((-1), h2))
def xX11_sumOf_29 (N : Nat) (K4 : Int32 → Int32 → Int32 → HP → Option (Int32 × HP)) (a1 : Int32) (a2 : Int32) (a3 : Int32) (h : HP) : Option (Int32 × HP) :=
  lt (a3 + 1) fun v1 =>
  K4 a1 a2 v1 h
def xX11_sumOf_4 (N : Nat) : Nat → Int32 → Int32 → Int32 → HP → Option (Int32 × HP)
  | 0 => fun _ _ _ _ => none
  | n + 1 => fun a1 a2 a3 h =>
    if (16 : Int32) ≤ a3 then
      (some (a2, h))
    else
      (cl (xX11_isTold a3 h) fun t1 h2 =>
      if t1 = 0 then
        (xX11_sumOf_29 N (xX11_sumOf_4 N n) a1 a2 a3 h2)
      else
        (ald h2 1 75 (a1 + a3) fun t3 =>
        lt (a2 + t3) fun v4 =>
        xX11_sumOf_29 N (xX11_sumOf_4 N n) a1 v4 a3 h2))
def xX11_sumOf (N : Nat) (a1 : Int32) (h : HP) : Option (Int32 × HP) :=
  xX11_sumOf_4 N N a1 0 0 h
def xX11_tried_41 (N : Nat) (h : HP) : Option (Int32 × HP) :=
  some ((-1), h)
def xX11_tried_149 (N : Nat) (a3 : Int32) (h : HP) : Option (Int32 × HP) :=
  cl (xX11_copies N 2 1 h) fun t1 h2 =>
  some (a3, h2)
def xX11_tried_148 (N : Nat) (s0 : Int32) (h : HP) : Option (Int32 × HP) :=
  xX11_tried_149 N s0 h
def xX11_tried_43 (N : Nat) (a1 : Int32) (a2 : Int32) (h : HP) : Option (Int32 × HP) :=
  cl (xX11_copies N 1 2 h) fun t1 h2 =>
  cl (xX11_minutesGo N a1 h2) fun t3 h4 =>
  if a2 = 0 then
    (lt (h4.1 0 40) fun v5 =>
    xX11_tried_149 N v5 h4)
  else if a2 = 1 then
    (ald h4 1 75 72 fun t6 =>
    xX11_tried_149 N t6 h4)
  else if a2 = 2 then
    (cl (xX11_sumOf N 0 h4) fun t7 h8 =>
    xX11_tried_149 N t7 h8)
  else (if (30 : Int32) ≤ a2 then
    (ald h4 1 75 ((32 + a2) - 30) fun t9 =>
    xX11_tried_148 N t9 h4)
  else
    (ald h4 1 75 ((0 + a2) - 10) fun t10 =>
    xX11_tried_148 N t10 h4))
def xX11_tried (N : Nat) (a1 : Int32) (a2 : Int32) (h : HP) : Option (Int32 × HP) :=
  cl (xX11_in a1 1 100 h) fun t1 h2 =>
  if t1 = 0 then
    (xX11_tried_41 N h2)
  else
    (cl (xX11_in a2 0 2 h2) fun t3 h4 =>
    if t3 ≠ 0 then
      (xX11_tried_43 N a1 a2 h4)
    else
      (cl (xX11_isTold (a2 - 10) h4) fun t5 h6 =>
      if t5 ≠ 0 then
        (xX11_tried_43 N a1 a2 h6)
      else
        (cl (xX11_isTold (a2 - 30) h6) fun t7 h8 =>
        if t7 ≠ 0 then
          (xX11_tried_43 N a1 a2 h8)
        else
          (xX11_tried_41 N h8))))
def xX11_dry_18 (N : Nat) (h : HP) : Option (Int32 × HP) :=
  some ((-1), h)
def xX11_dry_113 (N : Nat) (s0 : Int32) (h : HP) : Option (Int32 × HP) :=
  some (s0, h)
def xX11_dry_89 (N : Nat) (a3 : Int32) (s0 : Int32) (h : HP) : Option (Int32 × HP) :=
  cl (xX11_copies N 2 1 h) fun t1 h2 =>
  if s0 = 0 then
    (xX11_dry_113 N (-2) h2)
  else
    (xX11_dry_113 N a3 h2)
def xX11_dry_73 (N : Nat) (a1 : Int32) (a3 : Int32) (h : HP) : Option (Int32 × HP) :=
  ald h 1 75 (0 + a1) fun t1 =>
  if t1 ≠ 0 then
    (xX11_dry_89 N a3 0 h)
  else
    (xX11_dry_89 N a3 1 h)
def xX11_dry_33 (N : Nat) : Nat → Int32 → Int32 → Int32 → HP → Option (Int32 × HP)
  | 0 => fun _ _ _ _ => none
  | n + 1 => fun a1 a2 a3 h =>
    ald h 1 75 (0 + a1) fun t1 =>
    if t1 ≤ 0 then
      (xX11_dry_73 N a1 a3 h)
    else
      (if a2 ≤ a3 then
        (xX11_dry_73 N a1 a3 h)
      else
        (ald h 1 75 73 fun t2 =>
        if (9999 : Int32) ≤ t2 then
          (xX11_dry_73 N a1 a3 h)
        else
          (cl (xX11_minuteGoes N h) fun t3 h4 =>
          lt (a3 + 1) fun v5 =>
          (xX11_dry_33 N n) a1 a2 v5 h4)))
def xX11_dry (N : Nat) (a1 : Int32) (a2 : Int32) (h : HP) : Option (Int32 × HP) :=
  cl (xX11_isTold a1 h) fun t1 h2 =>
  if t1 = 0 then
    (xX11_dry_18 N h2)
  else
    (cl (xX11_in a2 1 100 h2) fun t3 h4 =>
    if t3 ≠ 0 then
      (cl (xX11_copies N 1 2 h4) fun t5 h6 =>
      xX11_dry_33 N N a1 a2 0 h6)
    else
      (xX11_dry_18 N h4))
def xX11_cornerIs (N : Nat) (a1 : Int32) (a2 : Int32) (h : HP) : Option (Int32 × HP) :=
  cl (xX11_isTold a1 h) fun t1 h2 =>
  if t1 ≠ 0 then
    (if a2 = 0 then
      (ald h2 4 16 a1 fun t3 =>
      some (t3, h2))
    else if a2 = 1 then
      (ald h2 1 75 (0 + a1) fun t4 =>
      some (t4, h2))
    else if a2 = 2 then
      (ald h2 1 75 (16 + a1) fun t5 =>
      some (t5, h2))
    else if a2 = 3 then
      (ald h2 1 75 (32 + a1) fun t6 =>
      some (t6, h2))
    else if a2 = 4 then
      (cl (xX11_openOf N a1 h2) fun t7 h8 =>
      some (t7, h8))
    else if a2 = 5 then
      (cl (xX11_nextTo N a1 h2) fun t9 h10 =>
      some (t9, h10))
    else (some ((-1), h2)))
  else
    (some ((-1), h2))
def xX11_pipeIs_75 (s0 : Int32) (h : HP) : Option (Int32 × HP) :=
  some (s0, h)
def xX11_pipeIs (a1 : Int32) (a2 : Int32) (h : HP) : Option (Int32 × HP) :=
  cl (xX11_in a1 0 ((h.1 0 8) - 1) h) fun t1 h2 =>
  if t1 ≠ 0 then
    (if a2 ≠ 0 then
      (if a2 ≠ (1 : Int32) then
        (if a2 ≠ (2 : Int32) then
          (if a2 ≠ (3 : Int32) then
            (xX11_pipeIs_75 (-1) h2)
          else
            (ald h2 1 75 (48 + a1) fun t3 =>
            xX11_pipeIs_75 t3 h2))
        else
          (ald h2 7 24 a1 fun t4 =>
          xX11_pipeIs_75 t4 h2))
      else
        (ald h2 6 24 a1 fun t5 =>
        xX11_pipeIs_75 t5 h2))
    else
      (ald h2 5 24 a1 fun t6 =>
      xX11_pipeIs_75 t6 h2))
  else
    (some ((-1), h2))
def xX11_restOf_47 (s0 : Int32) (h : HP) : Option (Int32 × HP) :=
  some (s0, h)
def xX11_restOf_14 (a1 : Int32) (a2 : Int32) (s0 : Int32) (h : HP) : Option (Int32 × HP) :=
  ald h 5 24 a1 fun t1 =>
  if t1 ≠ a2 then
    (ald h 26 24 a1 fun t2 =>
    xX11_restOf_47 (s0 + t2) h)
  else
    (ald h 26 24 a1 fun t3 =>
    xX11_restOf_47 (s0 - t3) h)
def xX11_restOf (a1 : Int32) (a2 : Int32) (a3 : Int32) (h : HP) : Option (Int32 × HP) :=
  if a3 = 0 then
    (ald h 7 24 a1 fun t1 =>
    xX11_restOf_14 a1 a2 t1 h)
  else
    (xX11_restOf_14 a1 a2 1 h)
def xX11_comesOn_127 (N : Nat) (K31 : Int32 → Int32 → Int32 → Int32 → HP → Option (Int32 × HP)) (a2 : Int32) (a3 : Int32) (a4 : Int32) (a5 : Int32) (h : HP) : Option (Int32 × HP) :=
  lt (a5 + 1) fun v1 =>
  K31 a2 a3 a4 v1 h
def xX11_comesOn_31 (N : Nat) (K19 : Int32 → Int32 → Int32 → HP → Option (Int32 × HP)) : Nat → Int32 → Int32 → Int32 → Int32 → HP → Option (Int32 × HP)
  | 0 => fun _ _ _ _ _ => none
  | n + 1 => fun a2 a3 a4 a5 h =>
    if (h.1 0 8) ≤ a5 then
      (lt (a4 + 1) fun v1 =>
      K19 a2 a3 v1 h)
    else
      (ald h 28 16 a4 fun t2 =>
      cl (xX11_beyond a5 t2 h) fun t3 h4 =>
      if t3 = (-1 : Int32) then
        (xX11_comesOn_127 N (xX11_comesOn_31 N K19 n) a2 a3 a4 a5 h4)
      else
        (cl (xX11_has a3 t3 h4) fun t5 h6 =>
        if t5 ≠ 0 then
          (xX11_comesOn_127 N (xX11_comesOn_31 N K19 n) a2 a3 a4 a5 h6)
        else
          (ald h6 28 16 a4 fun t7 =>
          cl (xX11_restOf a5 t7 a2 h6) fun t8 h9 =>
          if t8 ≠ 0 then
            (lt (a3 ||| (1 <<< (t3 &&& 31))) fun v10 =>
            ast h9 27 16 t3 a5 fun h11 =>
            ast h11 28 16 (h11.1 0 44) t3 fun h12 =>
            lt (up h12 0 44 ((h12.1 0 44) + 1)) fun h13 =>
            xX11_comesOn_127 N (xX11_comesOn_31 N K19 n) a2 v10 a4 a5 h13)
          else
            (xX11_comesOn_127 N (xX11_comesOn_31 N K19 n) a2 a3 a4 a5 h9))))
def xX11_comesOn_19 (N : Nat) : Nat → Int32 → Int32 → Int32 → HP → Option (Int32 × HP)
  | 0 => fun _ _ _ _ => none
  | n + 1 => fun a2 a3 a4 h =>
    if (h.1 0 44) ≤ a4 then
      (some (a3, h))
    else
      (xX11_comesOn_31 N (xX11_comesOn_19 N n) N a2 a3 a4 0 h)
def xX11_comesOn (N : Nat) (a1 : Int32) (a2 : Int32) (h : HP) : Option (Int32 × HP) :=
  lt (1 <<< (a1 &&& 31)) fun v1 =>
  ast h 28 16 0 a1 fun h2 =>
  lt (up h2 0 44 1) fun h3 =>
  xX11_comesOn_19 N N a2 v1 0 h3
def xX11_carries_115 (N : Nat) (K67 : Int32 → Int32 → Int32 → HP → Option (Int32 × HP)) (a1 : Int32) (a4 : Int32) (a5 : Int32) (s1 : Int32) (s2 : Int32) (s3 : Int32) (h : HP) : Option (Int32 × HP) :=
  ast h 26 24 s1 (s2 + s3) fun h1 =>
  ald h1 27 16 a5 fun t2 =>
  cl (xX11_beyond t2 a5 h1) fun t3 h4 =>
  K67 a1 a4 t3 h4
def xX11_carries_67 (N : Nat) : Nat → Int32 → Int32 → Int32 → HP → Option (Int32 × HP)
  | 0 => fun _ _ _ _ => none
  | n + 1 => fun a1 a4 a5 h =>
    if a5 = a1 then
      (some (a4, h))
    else
      (ald h 27 16 a5 fun t1 =>
      ald h 26 24 t1 fun t2 =>
      ald h 5 24 t1 fun t3 =>
      if t3 ≠ a5 then
        (xX11_carries_115 N (xX11_carries_67 N n) a1 a4 a5 t1 t2 a4 h)
      else
        (xX11_carries_115 N (xX11_carries_67 N n) a1 a4 a5 t1 t2 (-a4) h))
def xX11_carries_8 (N : Nat) : Nat → Int32 → Int32 → Int32 → Int32 → Int32 → HP → Option (Int32 × HP)
  | 0 => fun _ _ _ _ _ _ => none
  | n + 1 => fun a1 a2 a3 a4 a5 h =>
    if a5 = a1 then
      (xX11_carries_67 N N a1 a4 a2 h)
    else
      (ald h 27 16 a5 fun t1 =>
      ald h 27 16 a5 fun t2 =>
      cl (xX11_beyond t2 a5 h) fun t3 h4 =>
      cl (xX11_restOf t1 t3 a3 h4) fun t5 h6 =>
      cl (xX11_min a4 t5 h6) fun t7 h8 =>
      ald h8 27 16 a5 fun t9 =>
      cl (xX11_beyond t9 a5 h8) fun t10 h11 =>
      (xX11_carries_8 N n) a1 a2 a3 t7 t10 h11)
def xX11_carries (N : Nat) (a1 : Int32) (a2 : Int32) (a3 : Int32) (h : HP) : Option (Int32 × HP) :=
  xX11_carries_8 N N a1 a2 a3 1000000 a2 h
def xX11_laysFlow_39 (N : Nat) : Nat → Int32 → Int32 → Int32 → Int32 → HP → Option (Int32 × HP)
  | 0 => fun _ _ _ _ _ => none
  | n + 1 => fun a1 a2 a3 a4 h =>
    cl (xX11_has (h.1 0 45) a2 h) fun t1 h2 =>
    if t1 = 0 then
      (some (a4, h2))
    else
      (cl (xX11_carries N a1 a2 a3 h2) fun t3 h4 =>
      lt (a4 + t3) fun v5 =>
      cl (xX11_comesOn N a1 a3 h4) fun t6 h7 =>
      lt (up h7 0 45 t6) fun h8 =>
      (xX11_laysFlow_39 N n) a1 a2 a3 v5 h8)
def xX11_laysFlow_3 (N : Nat) : Nat → Int32 → Int32 → Int32 → Int32 → HP → Option (Int32 × HP)
  | 0 => fun _ _ _ _ _ => none
  | n + 1 => fun a1 a2 a3 a4 h =>
    if (h.1 0 8) ≤ a4 then
      (cl (xX11_comesOn N a1 a3 h) fun t1 h2 =>
      lt (up h2 0 45 t1) fun h3 =>
      xX11_laysFlow_39 N N a1 a2 a3 0 h3)
    else
      (ast h 26 24 a4 0 fun h4 =>
      lt (a4 + 1) fun v5 =>
      (xX11_laysFlow_3 N n) a1 a2 a3 v5 h4)
def xX11_laysFlow (N : Nat) (a1 : Int32) (a2 : Int32) (a3 : Int32) (h : HP) : Option (Int32 × HP) :=
  xX11_laysFlow_3 N N a1 a2 a3 0 h
def xX11_most_18 (N : Nat) (h : HP) : Option (Int32 × HP) :=
  some ((-1), h)
def xX11_most_42 (N : Nat) (s0 : Int32) (h : HP) : Option (Int32 × HP) :=
  some (s0, h)
def xX11_most (N : Nat) (a1 : Int32) (a2 : Int32) (a3 : Int32) (h : HP) : Option (Int32 × HP) :=
  cl (xX11_areTwo a1 a2 h) fun t1 h2 =>
  if t1 = 0 then
    (xX11_most_18 N h2)
  else
    (cl (xX11_in a3 0 1 h2) fun t3 h4 =>
    if t3 ≠ 0 then
      (cl (xX11_laysFlow N a1 a2 0 h4) fun t5 h6 =>
      if a3 ≠ 0 then
        (xX11_most_42 N (h6.1 0 45) h6)
      else
        (xX11_most_42 N t5 h6))
    else
      (xX11_most_18 N h4))
def xX11_cut_20 (N : Nat) (s0 : Int32) (h : HP) : Option (Int32 × HP) :=
  some (s0, h)
def xX11_cut (N : Nat) (a1 : Int32) (a2 : Int32) (h : HP) : Option (Int32 × HP) :=
  cl (xX11_areTwo a1 a2 h) fun t1 h2 =>
  if t1 = 0 then
    (xX11_cut_20 N (-1) h2)
  else
    (cl (xX11_laysFlow N a1 a2 1 h2) fun t3 h4 =>
    xX11_cut_20 N t3 h4)
def xX11_reached_96 (N : Nat) (K22 : Int32 → Int32 → Int32 → Int32 → Int32 → HP → Option (Int32 × HP)) (a2 : Int32) (a3 : Int32) (a4 : Int32) (a5 : Int32) (a6 : Int32) (h : HP) : Option (Int32 × HP) :=
  lt (a6 + 1) fun v1 =>
  K22 a2 a3 a4 a5 v1 h
def xX11_reached_22 (N : Nat) (K8 : Int32 → Int32 → Int32 → Int32 → HP → Option (Int32 × HP)) : Nat → Int32 → Int32 → Int32 → Int32 → Int32 → HP → Option (Int32 × HP)
  | 0 => fun _ _ _ _ _ _ => none
  | n + 1 => fun a2 a3 a4 a5 a6 h =>
    if (h.1 0 8) ≤ a6 then
      (K8 a2 a3 a4 a5 h)
    else
      (cl (xX11_isOpen a6 h) fun t1 h2 =>
      if t1 = 0 then
        (xX11_reached_96 N (xX11_reached_22 N K8 n) a2 a3 a4 a5 a6 h2)
      else
        (if a6 = a3 then
          (xX11_reached_96 N (xX11_reached_22 N K8 n) a2 a3 a4 a5 a6 h2)
        else
          (ald h2 7 24 a6 fun t3 =>
          if a2 ≤ t3 then
            (ald h2 5 24 a6 fun t4 =>
            ald h2 6 24 a6 fun t5 =>
            lt ((1 <<< (t4 &&& 31)) ||| (1 <<< (t5 &&& 31))) fun v6 =>
            if (a4 &&& v6) = 0 then
              (xX11_reached_96 N (xX11_reached_22 N K8 n) a2 a3 a4 a5 a6 h2)
            else
              (lt (a4 ||| v6) fun v7 =>
              xX11_reached_96 N (xX11_reached_22 N K8 n) a2 a3 v7 a5 a6 h2))
          else
            (xX11_reached_96 N (xX11_reached_22 N K8 n) a2 a3 a4 a5 a6 h2))))
def xX11_reached_8 (N : Nat) : Nat → Int32 → Int32 → Int32 → Int32 → HP → Option (Int32 × HP)
  | 0 => fun _ _ _ _ _ => none
  | n + 1 => fun a2 a3 a4 a5 h =>
    if a4 = a5 then
      (some (a4, h))
    else
      (xX11_reached_22 N (xX11_reached_8 N n) N a2 a3 a4 a4 0 h)
def xX11_reached (N : Nat) (a1 : Int32) (a2 : Int32) (a3 : Int32) (h : HP) : Option (Int32 × HP) :=
  lt (1 <<< (a1 &&& 31)) fun v1 =>
  xX11_reached_8 N N a2 a3 v1 0 h
def xX11_widest_14 (N : Nat) : Nat → Int32 → Int32 → Int32 → HP → Option (Int32 × HP)
  | 0 => fun _ _ _ _ => none
  | n + 1 => fun a1 a2 a3 h =>
    if a3 ≤ 0 then
      (some ((-2), h))
    else
      (cl (xX11_reached N a1 a3 (-1) h) fun t1 h2 =>
      cl (xX11_has t1 a2 h2) fun t3 h4 =>
      if t3 = 0 then
        (lt (a3 + (-1)) fun v5 =>
        (xX11_widest_14 N n) a1 a2 v5 h4)
      else
        (some (a3, h4)))
def xX11_widest (N : Nat) (a1 : Int32) (a2 : Int32) (h : HP) : Option (Int32 × HP) :=
  cl (xX11_areTwo a1 a2 h) fun t1 h2 =>
  if t1 ≠ 0 then
    (xX11_widest_14 N N a1 a2 99 h2)
  else
    (some ((-1), h2))
def xX11_laysSteps_174 (N : Nat) (K64 : Int32 → Int32 → Int32 → Int32 → HP → Option (Int32 × HP)) (a1 : Int32) (a2 : Int32) (a3 : Int32) (a4 : Int32) (h : HP) : Option (Int32 × HP) :=
  lt (a4 + 1) fun v1 =>
  K64 a1 a2 a3 v1 h
def xX11_laysSteps_95 (N : Nat) (K64 : Int32 → Int32 → Int32 → Int32 → HP → Option (Int32 × HP)) (a1 : Int32) (a2 : Int32) (a3 : Int32) (a4 : Int32) (s0 : Int32) (h : HP) : Option (Int32 × HP) :=
  if s0 = (-1 : Int32) then
    (xX11_laysSteps_174 N K64 a1 a2 a3 a4 h)
  else
    (ald h 29 256 ((16 * a1) + s0) fun t1 =>
    if t1 = (-2 : Int32) then
      (ald h 28 16 a3 fun t2 =>
      ald h 29 256 ((16 * a1) + t2) fun t3 =>
      ast h 29 256 ((16 * a1) + s0) (t3 + 1) fun h4 =>
      ast h4 28 16 (h4.1 0 44) s0 fun h5 =>
      lt (up h5 0 44 ((h5.1 0 44) + 1)) fun h6 =>
      xX11_laysSteps_174 N K64 a1 a2 a3 a4 h6)
    else
      (xX11_laysSteps_174 N K64 a1 a2 a3 a4 h))
def xX11_laysSteps_64 (N : Nat) (K53 : Int32 → Int32 → Int32 → HP → Option (Int32 × HP)) : Nat → Int32 → Int32 → Int32 → Int32 → HP → Option (Int32 × HP)
  | 0 => fun _ _ _ _ _ => none
  | n + 1 => fun a1 a2 a3 a4 h =>
    if (h.1 0 8) ≤ a4 then
      (lt (a3 + 1) fun v1 =>
      K53 a1 a2 v1 h)
    else
      (if a4 ≠ a2 then
        (ald h 28 16 a3 fun t2 =>
        cl (xX11_beyond a4 t2 h) fun t3 h4 =>
        xX11_laysSteps_95 N (xX11_laysSteps_64 N K53 n) a1 a2 a3 a4 t3 h4)
      else
        (xX11_laysSteps_95 N (xX11_laysSteps_64 N K53 n) a1 a2 a3 a4 (-1) h))
def xX11_laysSteps_53 (N : Nat) : Nat → Int32 → Int32 → Int32 → HP → Option (Int32 × HP)
  | 0 => fun _ _ _ _ => none
  | n + 1 => fun a1 a2 a3 h =>
    if (h.1 0 44) ≤ a3 then
      (some (0, h))
    else
      (xX11_laysSteps_64 N (xX11_laysSteps_53 N n) N a1 a2 a3 0 h)
def xX11_laysSteps_2 (N : Nat) : Nat → Int32 → Int32 → Int32 → HP → Option (Int32 × HP)
  | 0 => fun _ _ _ _ => none
  | n + 1 => fun a1 a2 a3 h =>
    if (16 : Int32) ≤ a3 then
      (ast h 29 256 ((16 * a1) + a1) 0 fun h1 =>
      ast h1 28 16 0 a1 fun h2 =>
      lt (up h2 0 44 1) fun h3 =>
      xX11_laysSteps_53 N N a1 a2 0 h3)
    else
      (ast h 29 256 ((16 * a1) + a3) (-2) fun h4 =>
      lt (a3 + 1) fun v5 =>
      (xX11_laysSteps_2 N n) a1 a2 v5 h4)
def xX11_laysSteps (N : Nat) (a1 : Int32) (a2 : Int32) (h : HP) : Option (Int32 × HP) :=
  xX11_laysSteps_2 N N a1 a2 0 h
def xX11_far (a1 : Int32) (a2 : Int32) (h : HP) : Option (Int32 × HP) :=
  ald h 29 256 ((16 * a1) + a2) fun t1 =>
  some (t1, h)
def xX11_laysAllSteps_22 (N : Nat) (K2 : Int32 → HP → Option (Int32 × HP)) (a1 : Int32) (h : HP) : Option (Int32 × HP) :=
  lt (a1 + 1) fun v1 =>
  K2 v1 h
def xX11_laysAllSteps_2 (N : Nat) : Nat → Int32 → HP → Option (Int32 × HP)
  | 0 => fun _ _ => none
  | n + 1 => fun a1 h =>
    if (16 : Int32) ≤ a1 then
      (some (0, h))
    else
      (cl (xX11_isTold a1 h) fun t1 h2 =>
      if t1 = 0 then
        (xX11_laysAllSteps_22 N (xX11_laysAllSteps_2 N n) a1 h2)
      else
        (cl (xX11_laysSteps N a1 (-1) h2) fun t3 h4 =>
        xX11_laysAllSteps_22 N (xX11_laysAllSteps_2 N n) a1 h4))
def xX11_laysAllSteps (N : Nat) (h : HP) : Option (Int32 × HP) :=
  xX11_laysAllSteps_2 N N 0 h
def xX11_steps_16 (N : Nat) (h : HP) : Option (Int32 × HP) :=
  some ((-1), h)
def xX11_steps (N : Nat) (a1 : Int32) (a2 : Int32) (h : HP) : Option (Int32 × HP) :=
  cl (xX11_isTold a1 h) fun t1 h2 =>
  if t1 = 0 then
    (xX11_steps_16 N h2)
  else
    (cl (xX11_isTold a2 h2) fun t3 h4 =>
    if t3 ≠ 0 then
      (cl (xX11_laysSteps N a1 (-1) h4) fun t5 h6 =>
      cl (xX11_far a1 a2 h6) fun t7 h8 =>
      some (t7, h8))
    else
      (xX11_steps_16 N h4))
def xX11_bridges_75 (N : Nat) (K24 : Int32 → Int32 → Int32 → Int32 → HP → Option (Int32 × HP)) (a1 : Int32) (a2 : Int32) (a3 : Int32) (a4 : Int32) (h : HP) : Option (Int32 × HP) :=
  lt (a4 + (-1)) fun v1 =>
  K24 a1 a2 a3 v1 h
def xX11_bridges_90 (N : Nat) (s0 : Int32) (h : HP) : Option (Int32 × HP) :=
  some (s0, h)
def xX11_bridges_24 (N : Nat) : Nat → Int32 → Int32 → Int32 → Int32 → HP → Option (Int32 × HP)
  | 0 => fun _ _ _ _ _ => none
  | n + 1 => fun a1 a2 a3 a4 h =>
    if a4 < 0 then
      (if a1 ≠ 0 then
        (xX11_bridges_90 N a3 h)
      else
        (xX11_bridges_90 N a2 h))
    else
      (cl (xX11_isOpen a4 h) fun t1 h2 =>
      if t1 = 0 then
        (xX11_bridges_75 N (xX11_bridges_24 N n) a1 a2 a3 a4 h2)
      else
        (ald h2 5 24 a4 fun t3 =>
        cl (xX11_reached N t3 1 a4 h2) fun t4 h5 =>
        ald h5 6 24 a4 fun t6 =>
        cl (xX11_has t4 t6 h5) fun t7 h8 =>
        if t7 = 0 then
          (lt (a2 + 1) fun v9 =>
          xX11_bridges_75 N (xX11_bridges_24 N n) a1 v9 a4 a4 h8)
        else
          (xX11_bridges_75 N (xX11_bridges_24 N n) a1 a2 a3 a4 h8)))
def xX11_bridges (N : Nat) (a1 : Int32) (h : HP) : Option (Int32 × HP) :=
  cl (xX11_in a1 0 1 h) fun t1 h2 =>
  if t1 ≠ 0 then
    (lt ((h2.1 0 8) - 1) fun v3 =>
    xX11_bridges_24 N N a1 0 (-2) v3 h2)
  else
    (some ((-1), h2))
def xX11_groups_45 (N : Nat) (K6 : Int32 → Int32 → Int32 → HP → Option (Int32 × HP)) (a1 : Int32) (a2 : Int32) (a3 : Int32) (h : HP) : Option (Int32 × HP) :=
  lt (a3 + 1) fun v1 =>
  K6 a1 a2 v1 h
def xX11_groups_6 (N : Nat) : Nat → Int32 → Int32 → Int32 → HP → Option (Int32 × HP)
  | 0 => fun _ _ _ _ => none
  | n + 1 => fun a1 a2 a3 h =>
    if (16 : Int32) ≤ a3 then
      (some (a1, h))
    else
      (cl (xX11_isTold a3 h) fun t1 h2 =>
      if t1 = 0 then
        (xX11_groups_45 N (xX11_groups_6 N n) a1 a2 a3 h2)
      else
        (cl (xX11_has a2 a3 h2) fun t3 h4 =>
        if t3 = 0 then
          (cl (xX11_reached N a3 1 (-1) h4) fun t5 h6 =>
          lt (a2 ||| t5) fun v7 =>
          lt (a1 + 1) fun v8 =>
          xX11_groups_45 N (xX11_groups_6 N n) v8 v7 a3 h6)
        else
          (xX11_groups_45 N (xX11_groups_6 N n) a1 a2 a3 h4)))
def xX11_groups (N : Nat) (h : HP) : Option (Int32 × HP) :=
  xX11_groups_6 N N 0 0 0 h
def xX11_worstOf_71 (N : Nat) (K29 : Int32 → Int32 → Int32 → Int32 → Int32 → HP → Option (Int32 × HP)) (a1 : Int32) (a2 : Int32) (a3 : Int32) (a4 : Int32) (a5 : Int32) (h : HP) : Option (Int32 × HP) :=
  lt (a5 + 1) fun v1 =>
  K29 a1 a2 a3 a4 v1 h
def xX11_worstOf_84 (N : Nat) (K4 : Int32 → Int32 → Int32 → HP → Option (Int32 × HP)) (a1 : Int32) (a2 : Int32) (a3 : Int32) (h : HP) : Option (Int32 × HP) :=
  lt (a3 + 1) fun v1 =>
  K4 a1 a2 v1 h
def xX11_worstOf_29 (N : Nat) (K4 : Int32 → Int32 → Int32 → HP → Option (Int32 × HP)) : Nat → Int32 → Int32 → Int32 → Int32 → Int32 → HP → Option (Int32 × HP)
  | 0 => fun _ _ _ _ _ _ => none
  | n + 1 => fun a1 a2 a3 a4 a5 h =>
    if (16 : Int32) ≤ a5 then
      (cl (xX11_max a2 a4 h) fun t1 h2 =>
      xX11_worstOf_84 N K4 a1 t1 a3 h2)
    else
      (cl (xX11_has a1 a5 h) fun t3 h4 =>
      if t3 = 0 then
        (xX11_worstOf_71 N (xX11_worstOf_29 N K4 n) a1 a2 a3 a4 a5 h4)
      else
        (cl (xX11_far a5 a3 h4) fun t5 h6 =>
        if t5 = (-2 : Int32) then
          (xX11_worstOf_71 N (xX11_worstOf_29 N K4 n) a1 a2 a3 a4 a5 h6)
        else
          (cl (xX11_far a5 a3 h6) fun t7 h8 =>
          cl (xX11_min a4 t7 h8) fun t9 h10 =>
          xX11_worstOf_71 N (xX11_worstOf_29 N K4 n) a1 a2 a3 t9 a5 h10)))
def xX11_worstOf_4 (N : Nat) : Nat → Int32 → Int32 → Int32 → HP → Option (Int32 × HP)
  | 0 => fun _ _ _ _ => none
  | n + 1 => fun a1 a2 a3 h =>
    if (16 : Int32) ≤ a3 then
      (some (a2, h))
    else
      (cl (xX11_isTold a3 h) fun t1 h2 =>
      if t1 ≠ 0 then
        (xX11_worstOf_29 N (xX11_worstOf_4 N n) N a1 a2 a3 1000000 0 h2)
      else
        (xX11_worstOf_84 N (xX11_worstOf_4 N n) a1 a2 a3 h2))
def xX11_worstOf (N : Nat) (a1 : Int32) (h : HP) : Option (Int32 × HP) :=
  xX11_worstOf_4 N N a1 0 0 h
def xX11_brigades_18 (N : Nat) (h : HP) : Option (Int32 × HP) :=
  some ((-1), h)
def xX11_brigades_91 (N : Nat) (K35 : Int32 → Int32 → Int32 → Int32 → Int32 → HP → Option (Int32 × HP)) (a1 : Int32) (a2 : Int32) (a3 : Int32) (a4 : Int32) (a5 : Int32) (h : HP) : Option (Int32 × HP) :=
  lt (a5 + 1) fun v1 =>
  K35 a1 a2 a3 a4 v1 h
def xX11_brigades_114 (N : Nat) (s0 : Int32) (h : HP) : Option (Int32 × HP) :=
  some (s0, h)
def xX11_brigades_108 (N : Nat) (a3 : Int32) (h : HP) : Option (Int32 × HP) :=
  xX11_brigades_114 N a3 h
def xX11_brigades_35 (N : Nat) : Nat → Int32 → Int32 → Int32 → Int32 → Int32 → HP → Option (Int32 × HP)
  | 0 => fun _ _ _ _ _ _ => none
  | n + 1 => fun a1 a2 a3 a4 a5 h =>
    if (65536 : Int32) ≤ a5 then
      (if a2 = (1 : Int32) then
        (xX11_brigades_108 N a3 h)
      else
        (if a3 ≠ (-2 : Int32) then
          (xX11_brigades_114 N a4 h)
        else
          (xX11_brigades_108 N a3 h)))
    else
      (if (a5 &&& ((h.1 0 7) ^^^ (-1))) ≠ 0 then
        (xX11_brigades_91 N (xX11_brigades_35 N n) a1 a2 a3 a4 a5 h)
      else
        (cl (xX11_bits N a5 h) fun t1 h2 =>
        if t1 = a1 then
          (cl (xX11_worstOf N a5 h2) fun t3 h4 =>
          if t3 < a4 then
            (xX11_brigades_91 N (xX11_brigades_35 N n) a1 a2 a5 t3 a5 h4)
          else
            (xX11_brigades_91 N (xX11_brigades_35 N n) a1 a2 a3 a4 a5 h4))
        else
          (xX11_brigades_91 N (xX11_brigades_35 N n) a1 a2 a3 a4 a5 h2)))
def xX11_brigades (N : Nat) (a1 : Int32) (a2 : Int32) (h : HP) : Option (Int32 × HP) :=
  cl (xX11_in a1 1 5 h) fun t1 h2 =>
  if t1 = 0 then
    (xX11_brigades_18 N h2)
  else
    (cl (xX11_in a2 0 1 h2) fun t3 h4 =>
    if t3 ≠ 0 then
      (cl (xX11_laysAllSteps N h4) fun t5 h6 =>
      xX11_brigades_35 N N a1 a2 (-2) 1000000 1 h6)
    else
      (xX11_brigades_18 N h4))
def xX11_painting_122 (N : Nat) (K54 : Int32 → Int32 → Int32 → Int32 → HP → Option (Int32 × HP)) (a1 : Int32) (a2 : Int32) (a3 : Int32) (a4 : Int32) (h : HP) : Option (Int32 × HP) :=
  lt (a4 + 1) fun v1 =>
  K54 a1 a2 a3 v1 h
def xX11_painting_54 (N : Nat) (K18 : Int32 → Int32 → HP → Option (Int32 × HP)) : Nat → Int32 → Int32 → Int32 → Int32 → HP → Option (Int32 × HP)
  | 0 => fun _ _ _ _ _ => none
  | n + 1 => fun a1 a2 a3 a4 h =>
    if (h.1 0 49) ≤ a4 then
      (lt (a2 + 1) fun v1 =>
      K18 a1 v1 h)
    else
      (cl (xX11_has a2 a4 h) fun t2 h3 =>
      if t2 = 0 then
        (xX11_painting_122 N (xX11_painting_54 N K18 n) a1 a2 a3 a4 h3)
      else
        (ald h3 31 65536 a2 fun t4 =>
        ald h3 31 65536 (a2 &&& (((1 <<< (a3 &&& 31)) ||| (1 <<< (a4 &&& 31))) ^^^ (-1))) fun t5 =>
        ald h3 30 16 a3 fun t6 =>
        ald h3 30 16 a4 fun t7 =>
        cl (xX11_far t6 t7 h3) fun t8 h9 =>
        cl (xX11_min t4 (t5 + t8) h9) fun t10 h11 =>
        ast h11 31 65536 a2 t10 fun h12 =>
        xX11_painting_122 N (xX11_painting_54 N K18 n) a1 a2 a3 a4 h12))
def xX11_painting_34 (N : Nat) (K18 : Int32 → Int32 → HP → Option (Int32 × HP)) : Nat → Int32 → Int32 → Int32 → HP → Option (Int32 × HP)
  | 0 => fun _ _ _ _ => none
  | n + 1 => fun a1 a2 a3 h =>
    cl (xX11_has a2 a3 h) fun t1 h2 =>
    if t1 ≠ 0 then
      (lt (a3 + 1) fun v3 =>
      xX11_painting_54 N K18 N a1 a2 a3 v3 h2)
    else
      (lt (a3 + 1) fun v4 =>
      (xX11_painting_34 N K18 n) a1 a2 v4 h2)
def xX11_painting_18 (N : Nat) : Nat → Int32 → Int32 → HP → Option (Int32 × HP)
  | 0 => fun _ _ _ => none
  | n + 1 => fun a1 a2 h =>
    if a1 < a2 then
      (ald h 31 65536 a1 fun t1 =>
      some (t1, h))
    else
      (ast h 31 65536 a2 1000000 fun h2 =>
      xX11_painting_34 N (xX11_painting_18 N n) N a1 a2 0 h2)
def xX11_painting (N : Nat) (h : HP) : Option (Int32 × HP) :=
  lt ((1 <<< ((h.1 0 49) &&& 31)) - 1) fun v1 =>
  ast h 31 65536 0 0 fun h2 =>
  xX11_painting_18 N N v1 1 h2
def xX11_painted_95 (N : Nat) (K32 : Int32 → Int32 → Int32 → HP → Option (Int32 × HP)) (a2 : Int32) (a3 : Int32) (a4 : Int32) (h : HP) : Option (Int32 × HP) :=
  lt (a4 + 1) fun v1 =>
  K32 a2 a3 v1 h
def xX11_painted_32 (N : Nat) : Nat → Int32 → Int32 → Int32 → HP → Option (Int32 × HP)
  | 0 => fun _ _ _ _ => none
  | n + 1 => fun a2 a3 a4 h =>
    if (16 : Int32) ≤ a4 then
      (cl (xX11_painting N h) fun t1 h2 =>
      some ((a3 / 2) + t1, h2))
    else
      (cl (xX11_has a2 a4 h) fun t3 h4 =>
      if t3 ≠ 0 then
        (cl (xX11_openOf N a4 h4) fun t5 h6 =>
        lt (a3 + t5) fun v7 =>
        cl (xX11_openOf N a4 h6) fun t8 h9 =>
        if (irem t8 2) ≠ 0 then
          (ast h9 30 16 (h9.1 0 49) a4 fun h10 =>
          lt (up h10 0 49 ((h10.1 0 49) + 1)) fun h11 =>
          xX11_painted_95 N (xX11_painted_32 N n) a2 v7 a4 h11)
        else
          (xX11_painted_95 N (xX11_painted_32 N n) a2 v7 a4 h9))
      else
        (xX11_painted_95 N (xX11_painted_32 N n) a2 a3 a4 h4))
def xX11_painted (N : Nat) (a1 : Int32) (h : HP) : Option (Int32 × HP) :=
  cl (xX11_isTold a1 h) fun t1 h2 =>
  if t1 ≠ 0 then
    (cl (xX11_laysAllSteps N h2) fun t3 h4 =>
    cl (xX11_reached N a1 1 (-1) h4) fun t5 h6 =>
    lt (up h6 0 49 0) fun h7 =>
    xX11_painted_32 N N t5 0 0 h7)
  else
    (some ((-1), h2))
def xX11_keptOpen_139 (N : Nat) (K102 : Int32 → Int32 → Int32 → Int32 → Int32 → HP → Option (Int32 × HP)) (a1 : Int32) (a2 : Int32) (a3 : Int32) (a4 : Int32) (a5 : Int32) (h : HP) : Option (Int32 × HP) :=
  lt (a5 + 1) fun v1 =>
  K102 a1 a2 a3 a4 v1 h
def xX11_keptOpen_149 (N : Nat) (K32 : Int32 → Int32 → Int32 → HP → Option (Int32 × HP)) (a1 : Int32) (a2 : Int32) (a3 : Int32) (h : HP) : Option (Int32 × HP) :=
  lt (a3 + 1) fun v1 =>
  K32 a1 a2 v1 h
def xX11_keptOpen_102 (N : Nat) (K32 : Int32 → Int32 → Int32 → HP → Option (Int32 × HP)) : Nat → Int32 → Int32 → Int32 → Int32 → Int32 → HP → Option (Int32 × HP)
  | 0 => fun _ _ _ _ _ _ => none
  | n + 1 => fun a1 a2 a3 a4 a5 h =>
    if (16 : Int32) ≤ a5 then
      (lt (a1 + a2) fun v1 =>
      xX11_keptOpen_149 N K32 v1 a2 a3 h)
    else
      (ald h 32 16 a5 fun t2 =>
      if t2 ≠ a4 then
        (xX11_keptOpen_139 N (xX11_keptOpen_102 N K32 n) a1 a2 a3 a4 a5 h)
      else
        (ald h 5 24 a3 fun t3 =>
        ald h 32 16 t3 fun t4 =>
        ast h 32 16 a5 t4 fun h5 =>
        xX11_keptOpen_139 N (xX11_keptOpen_102 N K32 n) a1 a2 a3 a4 a5 h5))
def xX11_keptOpen_32 (N : Nat) (K26 : Int32 → Int32 → HP → Option (Int32 × HP)) : Nat → Int32 → Int32 → Int32 → HP → Option (Int32 × HP)
  | 0 => fun _ _ _ _ => none
  | n + 1 => fun a1 a2 a3 h =>
    if (h.1 0 8) ≤ a3 then
      (lt (a2 + (-1)) fun v1 =>
      K26 a1 v1 h)
    else
      (cl (xX11_isOpen a3 h) fun t2 h3 =>
      if t2 = 0 then
        (xX11_keptOpen_149 N (xX11_keptOpen_32 N K26 n) a1 a2 a3 h3)
      else
        (ald h3 7 24 a3 fun t4 =>
        if t4 ≠ a2 then
          (xX11_keptOpen_149 N (xX11_keptOpen_32 N K26 n) a1 a2 a3 h3)
        else
          (ald h3 5 24 a3 fun t5 =>
          ald h3 32 16 t5 fun t6 =>
          ald h3 6 24 a3 fun t7 =>
          ald h3 32 16 t7 fun t8 =>
          if t6 ≠ t8 then
            (ald h3 6 24 a3 fun t9 =>
            ald h3 32 16 t9 fun t10 =>
            xX11_keptOpen_102 N (xX11_keptOpen_32 N K26 n) N a1 a2 a3 t10 0 h3)
          else
            (xX11_keptOpen_149 N (xX11_keptOpen_32 N K26 n) a1 a2 a3 h3))))
def xX11_keptOpen_26 (N : Nat) : Nat → Int32 → Int32 → HP → Option (Int32 × HP)
  | 0 => fun _ _ _ => none
  | n + 1 => fun a1 a2 h =>
    if a2 ≤ 0 then
      (some (a1, h))
    else
      (xX11_keptOpen_32 N (xX11_keptOpen_26 N n) N a1 a2 0 h)
def xX11_keptOpen_4 (N : Nat) : Nat → Int32 → Int32 → HP → Option (Int32 × HP)
  | 0 => fun _ _ _ => none
  | n + 1 => fun a1 a2 h =>
    if (16 : Int32) ≤ a2 then
      (xX11_keptOpen_26 N N a1 99 h)
    else
      (ast h 32 16 a2 a2 fun h1 =>
      lt (a2 + 1) fun v2 =>
      (xX11_keptOpen_4 N n) a1 v2 h1)
def xX11_keptOpen (N : Nat) (h : HP) : Option (Int32 × HP) :=
  xX11_keptOpen_4 N N 0 0 h
def xX11_farthest_96 (N : Nat) (K39 : Int32 → Int32 → Int32 → Int32 → Int32 → Int32 → HP → Option (Int32 × HP)) (a1 : Int32) (a2 : Int32) (a3 : Int32) (a4 : Int32) (a5 : Int32) (a6 : Int32) (h : HP) : Option (Int32 × HP) :=
  lt (a6 + 1) fun v1 =>
  K39 a1 a2 a3 a4 a5 v1 h
def xX11_farthest_39 (N : Nat) (K28 : Int32 → Int32 → Int32 → Int32 → Int32 → HP → Option (Int32 × HP)) : Nat → Int32 → Int32 → Int32 → Int32 → Int32 → Int32 → HP → Option (Int32 × HP)
  | 0 => fun _ _ _ _ _ _ _ => none
  | n + 1 => fun a1 a2 a3 a4 a5 a6 h =>
    if (16 : Int32) ≤ a6 then
      (lt (a5 + 1) fun v1 =>
      K28 a1 a2 a3 a4 v1 h)
    else
      (cl (xX11_isTold a5 h) fun t2 h3 =>
      if t2 = 0 then
        (xX11_farthest_96 N (xX11_farthest_39 N K28 n) a1 a2 a3 a4 a5 a6 h3)
      else
        (cl (xX11_isTold a6 h3) fun t4 h5 =>
        if t4 = 0 then
          (xX11_farthest_96 N (xX11_farthest_39 N K28 n) a1 a2 a3 a4 a5 a6 h5)
        else
          (cl (xX11_far a5 a6 h5) fun t6 h7 =>
          if a4 < t6 then
            (cl (xX11_far a5 a6 h7) fun t8 h9 =>
            xX11_farthest_96 N (xX11_farthest_39 N K28 n) a1 a5 a6 t8 a5 a6 h9)
          else
            (xX11_farthest_96 N (xX11_farthest_39 N K28 n) a1 a2 a3 a4 a5 a6 h7))))
def xX11_farthest_127 (N : Nat) (s0 : Int32) (h : HP) : Option (Int32 × HP) :=
  some (s0, h)
def xX11_farthest_28 (N : Nat) : Nat → Int32 → Int32 → Int32 → Int32 → Int32 → HP → Option (Int32 × HP)
  | 0 => fun _ _ _ _ _ _ => none
  | n + 1 => fun a1 a2 a3 a4 a5 h =>
    if (16 : Int32) ≤ a5 then
      (if a1 ≠ 0 then
        (if a1 ≠ (1 : Int32) then
          (xX11_farthest_127 N a3 h)
        else
          (xX11_farthest_127 N a2 h))
      else
        (xX11_farthest_127 N a4 h))
    else
      (xX11_farthest_39 N (xX11_farthest_28 N n) N a1 a2 a3 a4 a5 a5 h)
def xX11_farthest (N : Nat) (a1 : Int32) (h : HP) : Option (Int32 × HP) :=
  cl (xX11_in a1 0 2 h) fun t1 h2 =>
  if t1 ≠ 0 then
    (cl (xX11_laysAllSteps N h2) fun t3 h4 =>
    xX11_farthest_28 N N a1 (-2) (-2) (-2) 0 h4)
  else
    (some ((-1), h2))
def xX11_ring_85 (N : Nat) (K15 : Int32 → Int32 → Int32 → HP → Option (Int32 × HP)) (a1 : Int32) (a2 : Int32) (a3 : Int32) (h : HP) : Option (Int32 × HP) :=
  lt (a3 + 1) fun v1 =>
  K15 a1 a2 v1 h
def xX11_ring_82 (N : Nat) (K15 : Int32 → Int32 → Int32 → HP → Option (Int32 × HP)) (a1 : Int32) (a3 : Int32) (a5 : Int32) (h : HP) : Option (Int32 × HP) :=
  xX11_ring_85 N K15 a1 a5 a3 h
def xX11_ring_15 (N : Nat) : Nat → Int32 → Int32 → Int32 → HP → Option (Int32 × HP)
  | 0 => fun _ _ _ _ => none
  | n + 1 => fun a1 a2 a3 h =>
    if (h.1 0 8) ≤ a3 then
      (some (a2, h))
    else
      (cl (xX11_beyond a3 a1 h) fun t1 h2 =>
      if t1 ≠ (-1 : Int32) then
        (cl (xX11_laysSteps N t1 a3 h2) fun t3 h4 =>
        cl (xX11_far t1 a1 h4) fun t5 h6 =>
        lt (t5 + 1) fun v7 =>
        cl (xX11_far t1 a1 h6) fun t8 h9 =>
        if t8 = (-2 : Int32) then
          (xX11_ring_85 N (xX11_ring_15 N n) a1 a2 a3 h9)
        else
          (if a2 = (-2 : Int32) then
            (xX11_ring_82 N (xX11_ring_15 N n) a1 a3 v7 h9)
          else
            (if a2 ≤ v7 then
              (xX11_ring_85 N (xX11_ring_15 N n) a1 a2 a3 h9)
            else
              (xX11_ring_82 N (xX11_ring_15 N n) a1 a3 v7 h9))))
      else
        (xX11_ring_85 N (xX11_ring_15 N n) a1 a2 a3 h2))
def xX11_ring (N : Nat) (a1 : Int32) (h : HP) : Option (Int32 × HP) :=
  cl (xX11_isTold a1 h) fun t1 h2 =>
  if t1 ≠ 0 then
    (xX11_ring_15 N N a1 (-2) 0 h2)
  else
    (some ((-1), h2))
def xX11_highest_51 (N : Nat) (K16 : Int32 → Int32 → Int32 → HP → Option (Int32 × HP)) (a1 : Int32) (a2 : Int32) (a3 : Int32) (h : HP) : Option (Int32 × HP) :=
  lt (a3 + 1) fun v1 =>
  K16 a1 a2 v1 h
def xX11_highest_49 (N : Nat) (K16 : Int32 → Int32 → Int32 → HP → Option (Int32 × HP)) (a1 : Int32) (a3 : Int32) (h : HP) : Option (Int32 × HP) :=
  xX11_highest_51 N K16 a1 a3 a3 h
def xX11_highest_76 (N : Nat) (s0 : Int32) (h : HP) : Option (Int32 × HP) :=
  some (s0, h)
def xX11_highest_67 (N : Nat) (a2 : Int32) (h : HP) : Option (Int32 × HP) :=
  xX11_highest_76 N a2 h
def xX11_highest_16 (N : Nat) : Nat → Int32 → Int32 → Int32 → HP → Option (Int32 × HP)
  | 0 => fun _ _ _ _ => none
  | n + 1 => fun a1 a2 a3 h =>
    if (16 : Int32) ≤ a3 then
      (if a1 = 0 then
        (xX11_highest_67 N a2 h)
      else
        (if a2 ≠ (-2 : Int32) then
          (cl (xX11_levelOf a2 h) fun t1 h2 =>
          xX11_highest_76 N t1 h2)
        else
          (xX11_highest_67 N a2 h)))
    else
      (cl (xX11_isTold a3 h) fun t3 h4 =>
      if t3 = 0 then
        (xX11_highest_51 N (xX11_highest_16 N n) a1 a2 a3 h4)
      else
        (if a2 = (-2 : Int32) then
          (xX11_highest_49 N (xX11_highest_16 N n) a1 a3 h4)
        else
          (cl (xX11_levelOf a3 h4) fun t5 h6 =>
          cl (xX11_levelOf a2 h6) fun t7 h8 =>
          if t5 ≤ t7 then
            (xX11_highest_51 N (xX11_highest_16 N n) a1 a2 a3 h8)
          else
            (xX11_highest_49 N (xX11_highest_16 N n) a1 a3 h8))))
def xX11_highest (N : Nat) (a1 : Int32) (h : HP) : Option (Int32 × HP) :=
  cl (xX11_in a1 0 1 h) fun t1 h2 =>
  if t1 ≠ 0 then
    (xX11_highest_16 N N a1 (-2) 0 h2)
  else
    (some ((-1), h2))
def xX11_lowestOf_2 (N : Nat) : Nat → Int32 → Int32 → HP → Option (Int32 × HP)
  | 0 => fun _ _ _ => none
  | n + 1 => fun a0 a1 h =>
    cl (xX11_has a0 a1 h) fun t1 h2 =>
    if t1 ≠ 0 then
      (some (a1, h2))
    else
      (lt (a1 + 1) fun v3 =>
      (xX11_lowestOf_2 N n) a0 v3 h2)
def xX11_lowestOf (N : Nat) (a0 : Int32) (h : HP) : Option (Int32 × HP) :=
  xX11_lowestOf_2 N N a0 0 h
def xX11_longest_17 (N : Nat) (h : HP) : Option (Int32 × HP) :=
  some ((-1), h)
def xX11_longest_221 (N : Nat) (K170 : Int32 → Int32 → Int32 → Int32 → Int32 → Int32 → Int32 → HP → Option (Int32 × HP)) (a2 : Int32) (a3 : Int32) (a4 : Int32) (a5 : Int32) (a6 : Int32) (a7 : Int32) (a8 : Int32) (h : HP) : Option (Int32 × HP) :=
  lt (a8 + 1) fun v1 =>
  K170 a2 a3 a4 a5 a6 a7 v1 h
def xX11_longest_227 (N : Nat) (K128 : Int32 → Int32 → Int32 → Int32 → Int32 → HP → Option (Int32 × HP)) (a2 : Int32) (a3 : Int32) (a4 : Int32) (a5 : Int32) (a6 : Int32) (h : HP) : Option (Int32 × HP) :=
  lt (a6 + 1) fun v1 =>
  K128 a2 a3 a4 a5 v1 h
def xX11_longest_170 (N : Nat) (K128 : Int32 → Int32 → Int32 → Int32 → Int32 → HP → Option (Int32 × HP)) : Nat → Int32 → Int32 → Int32 → Int32 → Int32 → Int32 → Int32 → HP → Option (Int32 × HP)
  | 0 => fun _ _ _ _ _ _ _ _ => none
  | n + 1 => fun a2 a3 a4 a5 a6 a7 a8 h =>
    if (16 : Int32) ≤ a8 then
      (xX11_longest_227 N K128 a2 a3 a4 a5 a6 h)
    else
      (if a7 = 0 then
        (xX11_longest_227 N K128 a2 a3 a4 a5 a6 h)
      else
        (cl (xX11_has a7 a8 h) fun t1 h2 =>
        if t1 = 0 then
          (xX11_longest_221 N (xX11_longest_170 N K128 n) a2 a3 a4 a5 a6 a7 a8 h2)
        else
          (ald h2 33 65536 (a5 ||| (1 <<< (a8 &&& 31))) fun t3 =>
          ast h2 33 65536 (a5 ||| (1 <<< (a8 &&& 31))) (t3 ||| (1 <<< (a8 &&& 31))) fun h4 =>
          xX11_longest_221 N (xX11_longest_170 N K128 n) a2 a3 a4 a5 a6 a7 a8 h4)))
def xX11_longest_165 (N : Nat) (K128 : Int32 → Int32 → Int32 → Int32 → Int32 → HP → Option (Int32 × HP)) (a2 : Int32) (a3 : Int32) (a4 : Int32) (a5 : Int32) (a6 : Int32) (s0 : Int32) (h : HP) : Option (Int32 × HP) :=
  xX11_longest_170 N K128 N a2 a3 a4 a5 a6 s0 0 h
def xX11_longest_233 (N : Nat) (K63 : Int32 → Int32 → Int32 → Int32 → HP → Option (Int32 × HP)) (a2 : Int32) (a3 : Int32) (a4 : Int32) (a5 : Int32) (h : HP) : Option (Int32 × HP) :=
  lt (a5 + 1) fun v1 =>
  K63 a2 a3 a4 v1 h
def xX11_longest_128 (N : Nat) (K63 : Int32 → Int32 → Int32 → Int32 → HP → Option (Int32 × HP)) : Nat → Int32 → Int32 → Int32 → Int32 → Int32 → HP → Option (Int32 × HP)
  | 0 => fun _ _ _ _ _ _ => none
  | n + 1 => fun a2 a3 a4 a5 a6 h =>
    if (16 : Int32) ≤ a6 then
      (xX11_longest_233 N K63 a2 a3 a4 a5 h)
    else
      (ald h 33 65536 a5 fun t1 =>
      cl (xX11_has t1 a6 h) fun t2 h3 =>
      if t2 = 0 then
        (xX11_longest_165 N (xX11_longest_128 N K63 n) a2 a3 a4 a5 a6 0 h3)
      else
        (cl (xX11_nextTo N a6 h3) fun t4 h5 =>
        xX11_longest_165 N (xX11_longest_128 N K63 n) a2 a3 a4 a5 a6 (t4 &&& (a5 ^^^ (-1))) h5))
def xX11_longest_125 (N : Nat) (K63 : Int32 → Int32 → Int32 → Int32 → HP → Option (Int32 × HP)) (a2 : Int32) (a3 : Int32) (a4 : Int32) (a5 : Int32) (h : HP) : Option (Int32 × HP) :=
  xX11_longest_128 N K63 N a2 a3 a4 a5 0 h
def xX11_longest_101 (N : Nat) (K63 : Int32 → Int32 → Int32 → Int32 → HP → Option (Int32 × HP)) (a2 : Int32) (a3 : Int32) (a4 : Int32) (a5 : Int32) (h : HP) : Option (Int32 × HP) :=
  cl (xX11_bits N a5 h) fun t1 h2 =>
  cl (xX11_bits N a3 h2) fun t3 h4 =>
  if t1 ≠ t3 then
    (xX11_longest_125 N K63 a2 a3 a4 a5 h4)
  else
    (ald h4 33 65536 a5 fun t5 =>
    lt (a4 ||| t5) fun v6 =>
    xX11_longest_125 N K63 a2 a3 v6 a5 h4)
def xX11_longest_257 (N : Nat) (s0 : Int32) (h : HP) : Option (Int32 × HP) :=
  some (s0, h)
def xX11_longest_63 (N : Nat) : Nat → Int32 → Int32 → Int32 → Int32 → HP → Option (Int32 × HP)
  | 0 => fun _ _ _ _ _ => none
  | n + 1 => fun a2 a3 a4 a5 h =>
    if (65536 : Int32) ≤ a5 then
      (if a2 ≠ 0 then
        (cl (xX11_lowestOf N a4 h) fun t1 h2 =>
        xX11_longest_257 N t1 h2)
      else
        (cl (xX11_bits N a3 h) fun t3 h4 =>
        xX11_longest_257 N (t3 - 1) h4))
    else
      (ald h 33 65536 a5 fun t5 =>
      if t5 ≠ 0 then
        (cl (xX11_bits N a5 h) fun t6 h7 =>
        cl (xX11_bits N a3 h7) fun t8 h9 =>
        if t6 ≤ t8 then
          (xX11_longest_101 N (xX11_longest_63 N n) a2 a3 a4 a5 h9)
        else
          (xX11_longest_101 N (xX11_longest_63 N n) a2 a5 0 a5 h9))
      else
        (xX11_longest_233 N (xX11_longest_63 N n) a2 a3 a4 a5 h))
def xX11_longest_21 (N : Nat) : Nat → Int32 → Int32 → Int32 → HP → Option (Int32 × HP)
  | 0 => fun _ _ _ _ => none
  | n + 1 => fun a1 a2 a3 h =>
    if (65536 : Int32) ≤ a3 then
      (ast h 33 65536 (1 <<< (a1 &&& 31)) (1 <<< (a1 &&& 31)) fun h1 =>
      lt (1 <<< (a1 &&& 31)) fun v2 =>
      lt (1 <<< (a1 &&& 31)) fun v3 =>
      xX11_longest_63 N N a2 v2 v3 1 h1)
    else
      (ast h 33 65536 a3 0 fun h4 =>
      lt (a3 + 1) fun v5 =>
      (xX11_longest_21 N n) a1 a2 v5 h4)
def xX11_longest (N : Nat) (a1 : Int32) (a2 : Int32) (h : HP) : Option (Int32 × HP) :=
  cl (xX11_isTold a1 h) fun t1 h2 =>
  if t1 = 0 then
    (xX11_longest_17 N h2)
  else
    (cl (xX11_in a2 0 1 h2) fun t3 h4 =>
    if t3 ≠ 0 then
      (xX11_longest_21 N N a1 a2 0 h4)
    else
      (xX11_longest_17 N h4))
def xX11_adds_100 (N : Nat) (K2 : Int32 → Int32 → Int32 → HP → Option (Int32 × HP)) (a1 : Int32) (a2 : Int32) (a3 : Int32) (h : HP) : Option (Int32 × HP) :=
  lt (a3 + 1) fun v1 =>
  K2 a1 a2 v1 h
def xX11_adds_26 (N : Nat) (K2 : Int32 → Int32 → Int32 → HP → Option (Int32 × HP)) : Nat → Int32 → Int32 → Int32 → Int32 → HP → Option (Int32 × HP)
  | 0 => fun _ _ _ _ _ => none
  | n + 1 => fun a1 a2 a3 a4 h =>
    if (9 : Int32) ≤ a4 then
      (xX11_adds_100 N K2 a1 a2 a3 h)
    else
      (if a3 < (a4 * a1) then
        (xX11_adds_100 N K2 a1 a2 a3 h)
      else
        (ald h 36 16321 a3 fun t1 =>
        ald h 34 16321 (a3 - (a4 * a1)) fun t2 =>
        ast h 36 16321 a3 (t1 + t2) fun h3 =>
        ald h3 37 16321 a3 fun t4 =>
        ald h3 35 16321 (a3 - (a4 * a1)) fun t5 =>
        cl (xX11_min t4 (t5 + a4) h3) fun t6 h7 =>
        ast h7 37 16321 a3 t6 fun h8 =>
        lt (a4 + 1) fun v9 =>
        (xX11_adds_26 N K2 n) a1 a2 a3 v9 h8))
def xX11_adds_108 (N : Nat) : Nat → Int32 → Int32 → HP → Option (Int32 × HP)
  | 0 => fun _ _ _ => none
  | n + 1 => fun a2 a3 h =>
    if a2 < a3 then
      (some (0, h))
    else
      (ald h 36 16321 a3 fun t1 =>
      ast h 34 16321 a3 t1 fun h2 =>
      ald h2 37 16321 a3 fun t3 =>
      ast h2 35 16321 a3 t3 fun h4 =>
      lt (a3 + 1) fun v5 =>
      (xX11_adds_108 N n) a2 v5 h4)
def xX11_adds_2 (N : Nat) : Nat → Int32 → Int32 → Int32 → HP → Option (Int32 × HP)
  | 0 => fun _ _ _ _ => none
  | n + 1 => fun a1 a2 a3 h =>
    if a2 < a3 then
      (xX11_adds_108 N N a2 0 h)
    else
      (ast h 36 16321 a3 0 fun h1 =>
      ast h1 37 16321 a3 1000000 fun h2 =>
      xX11_adds_26 N (xX11_adds_2 N n) N a1 a2 a3 0 h2)
def xX11_adds (N : Nat) (a1 : Int32) (a2 : Int32) (h : HP) : Option (Int32 × HP) :=
  xX11_adds_2 N N a1 a2 0 h
def xX11_byEighths_38 (N : Nat) (h : HP) : Option (Int32 × HP) :=
  some ((-1), h)
def xX11_byEighths_89 (N : Nat) (K48 : Int32 → Int32 → Int32 → Int32 → HP → Option (Int32 × HP)) (a1 : Int32) (a2 : Int32) (a3 : Int32) (a4 : Int32) (s1 : Int32) (s2 : Int32) (h : HP) : Option (Int32 × HP) :=
  ast h 35 16321 s1 s2 fun h1 =>
  lt (a4 + 1) fun v2 =>
  K48 a1 a2 a3 v2 h1
def xX11_byEighths_70 (N : Nat) (K48 : Int32 → Int32 → Int32 → Int32 → HP → Option (Int32 × HP)) (a1 : Int32) (a2 : Int32) (a3 : Int32) (a4 : Int32) (s1 : Int32) (s2 : Int32) (h : HP) : Option (Int32 × HP) :=
  ast h 34 16321 s1 s2 fun h1 =>
  if a4 ≠ 0 then
    (xX11_byEighths_89 N K48 a1 a2 a3 a4 a4 1000000 h1)
  else
    (xX11_byEighths_89 N K48 a1 a2 a3 a4 a4 0 h1)
def xX11_byEighths_156 (N : Nat) (s0 : Int32) (h : HP) : Option (Int32 × HP) :=
  some (s0, h)
def xX11_byEighths_99 (N : Nat) : Nat → Int32 → Int32 → Int32 → Int32 → HP → Option (Int32 × HP)
  | 0 => fun _ _ _ _ _ => none
  | n + 1 => fun a1 a2 a3 a4 h =>
    if a1 ≤ a4 then
      (if a3 ≠ 0 then
        (ald h 35 16321 a2 fun t1 =>
        if t1 < (1000000 : Int32) then
          (ald h 35 16321 a2 fun t2 =>
          xX11_byEighths_156 N t2 h)
        else
          (xX11_byEighths_156 N (-2) h))
      else
        (ald h 34 16321 a2 fun t3 =>
        some (t3, h)))
    else
      (cl (xX11_octet a4 h) fun t4 h5 =>
      cl (xX11_adds N t4 a2 h5) fun t6 h7 =>
      lt (a4 + 1) fun v8 =>
      (xX11_byEighths_99 N n) a1 a2 a3 v8 h7)
def xX11_byEighths_48 (N : Nat) : Nat → Int32 → Int32 → Int32 → Int32 → HP → Option (Int32 × HP)
  | 0 => fun _ _ _ _ _ => none
  | n + 1 => fun a1 a2 a3 a4 h =>
    if a2 < a4 then
      (xX11_byEighths_99 N N a1 a2 a3 0 h)
    else
      (if a4 ≠ 0 then
        (xX11_byEighths_70 N (xX11_byEighths_48 N n) a1 a2 a3 a4 a4 0 h)
      else
        (xX11_byEighths_70 N (xX11_byEighths_48 N n) a1 a2 a3 a4 a4 1 h))
def xX11_byEighths (N : Nat) (a1 : Int32) (a2 : Int32) (a3 : Int32) (h : HP) : Option (Int32 × HP) :=
  cl (xX11_in a1 1 8 h) fun t1 h2 =>
  if t1 = 0 then
    (xX11_byEighths_38 N h2)
  else
    (cl (xX11_in a2 0 16320 h2) fun t3 h4 =>
    if t3 = 0 then
      (xX11_byEighths_38 N h4)
    else
      (cl (xX11_in a3 0 1 h4) fun t5 h6 =>
      if t5 = 0 then
        (xX11_byEighths_38 N h6)
      else
        (if a1 ≤ (h6.1 0 10) then
          (lt (up h6 0 10 0) fun h7 =>
          xX11_byEighths_48 N N a1 a2 a3 0 h7)
        else
          (xX11_byEighths_38 N h6))))
def xX11_readings_32 (N : Nat) (h : HP) : Option (Int32 × HP) :=
  some ((-1), h)
def xX11_readings_137 (N : Nat) (K56 : Int32 → Int32 → Int32 → Int32 → Int32 → Int32 → Int32 → HP → Option (Int32 × HP)) (a1 : Int32) (a2 : Int32) (a3 : Int32) (a4 : Int32) (a5 : Int32) (a6 : Int32) (a7 : Int32) (h : HP) : Option (Int32 × HP) :=
  lt (a7 + 1) fun v1 =>
  K56 a1 a2 a3 a4 a5 a6 v1 h
def xX11_readings_162 (N : Nat) (s0 : Int32) (h : HP) : Option (Int32 × HP) :=
  some (s0, h)
def xX11_readings_56 (N : Nat) : Nat → Int32 → Int32 → Int32 → Int32 → Int32 → Int32 → Int32 → HP → Option (Int32 × HP)
  | 0 => fun _ _ _ _ _ _ _ _ => none
  | n + 1 => fun a1 a2 a3 a4 a5 a6 a7 h =>
    if (16 : Int32) ≤ a7 then
      (if a1 ≠ 0 then
        (if a1 ≠ (1 : Int32) then
          (xX11_readings_162 N a5 h)
        else
          (xX11_readings_162 N a3 h))
      else
        (xX11_readings_162 N a2 h))
    else
      (cl (xX11_isTold a7 h) fun t1 h2 =>
      if t1 ≠ 0 then
        (cl (xX11_octet a6 h2) fun t3 h4 =>
        cl (xX11_octet (a6 + 1) h4) fun t5 h6 =>
        lt (t3 - t5) fun v7 =>
        lt (a6 + 2) fun v8 =>
        if 0 < v7 then
          (lt (a2 ||| (1 <<< (a7 &&& 31))) fun v9 =>
          lt (a5 + v7) fun v10 =>
          if a4 < v7 then
            (xX11_readings_137 N (xX11_readings_56 N n) a1 v9 a7 v7 v10 v8 a7 h6)
          else
            (xX11_readings_137 N (xX11_readings_56 N n) a1 v9 a3 a4 v10 v8 a7 h6))
        else
          (xX11_readings_137 N (xX11_readings_56 N n) a1 a2 a3 a4 a5 v8 a7 h6))
      else
        (xX11_readings_137 N (xX11_readings_56 N n) a1 a2 a3 a4 a5 a6 a7 h2))
def xX11_readings (N : Nat) (a1 : Int32) (h : HP) : Option (Int32 × HP) :=
  cl (xX11_in a1 0 2 h) fun t1 h2 =>
  if t1 = 0 then
    (xX11_readings_32 N h2)
  else
    (if (h2.1 0 7) = 0 then
      (xX11_readings_32 N h2)
    else
      (cl (xX11_bits N (h2.1 0 7) h2) fun t3 h4 =>
      if (2 * t3) ≤ (h4.1 0 10) then
        (lt (up h4 0 10 0) fun h5 =>
        xX11_readings_56 N N a1 0 (-2) 0 0 0 0 h5)
      else
        (xX11_readings_32 N h4)))
def xX11_hose_47 (N : Nat) (h : HP) : Option (Int32 × HP) :=
  some ((-1), h)
def xX11_hose_150 (N : Nat) (K95 : Int32 → Int32 → Int32 → Int32 → Int32 → Int32 → Int32 → HP → Option (Int32 × HP)) (a1 : Int32) (a2 : Int32) (a3 : Int32) (a4 : Int32) (a5 : Int32) (a6 : Int32) (a7 : Int32) (h : HP) : Option (Int32 × HP) :=
  lt (a7 + 1) fun v1 =>
  K95 a1 a2 a3 a4 a5 a6 v1 h
def xX11_hose_95 (N : Nat) (K83 : Int32 → Int32 → Int32 → Int32 → Int32 → HP → Option (Int32 × HP)) : Nat → Int32 → Int32 → Int32 → Int32 → Int32 → Int32 → Int32 → HP → Option (Int32 × HP)
  | 0 => fun _ _ _ _ _ _ _ _ => none
  | n + 1 => fun a1 a2 a3 a4 a5 a6 a7 h =>
    if a2 ≤ a7 then
      (ald h 38 6 a6 fun t1 =>
      cl (xX11_octet ((a2 * a5) + a6) h) fun t2 h3 =>
      ast h3 38 6 a6 (t1 + (2 * t2)) fun h4 =>
      ast h4 39 12 a5 a6 fun h5 =>
      ald h5 38 6 a6 fun t6 =>
      cl (xX11_max a4 t6 h5) fun t7 h8 =>
      lt (a5 + 1) fun v9 =>
      K83 a1 a2 a3 t7 v9 h8)
    else
      (ald h 38 6 a7 fun t10 =>
      cl (xX11_octet ((a2 * a5) + a7) h) fun t11 h12 =>
      ald h12 38 6 a6 fun t13 =>
      cl (xX11_octet ((a2 * a5) + a6) h12) fun t14 h15 =>
      if (t13 + (2 * t14)) ≤ (t10 + (2 * t11)) then
        (xX11_hose_150 N (xX11_hose_95 N K83 n) a1 a2 a3 a4 a5 a6 a7 h15)
      else
        (xX11_hose_150 N (xX11_hose_95 N K83 n) a1 a2 a3 a4 a5 a7 a7 h15))
def xX11_hose_230 (N : Nat) (s0 : Int32) (h : HP) : Option (Int32 × HP) :=
  some (s0, h)
def xX11_hose_83 (N : Nat) : Nat → Int32 → Int32 → Int32 → Int32 → Int32 → HP → Option (Int32 × HP)
  | 0 => fun _ _ _ _ _ _ => none
  | n + 1 => fun a1 a2 a3 a4 a5 h =>
    if a1 ≤ a5 then
      (if a3 ≠ (100 : Int32) then
        (ald h 39 12 a3 fun t1 =>
        xX11_hose_230 N t1 h)
      else
        (xX11_hose_230 N a4 h))
    else
      (xX11_hose_95 N (xX11_hose_83 N n) N a1 a2 a3 a4 a5 0 1 h)
def xX11_hose_60 (N : Nat) : Nat → Int32 → Int32 → Int32 → Int32 → Int32 → HP → Option (Int32 × HP)
  | 0 => fun _ _ _ _ _ _ => none
  | n + 1 => fun a1 a2 a3 a4 a5 h =>
    if a2 ≤ a5 then
      (xX11_hose_83 N N a1 a2 a3 a4 0 h)
    else
      (ast h 38 6 a5 0 fun h1 =>
      lt (a5 + 1) fun v2 =>
      (xX11_hose_60 N n) a1 a2 a3 a4 v2 h1)
def xX11_hose_37 (N : Nat) (a1 : Int32) (a2 : Int32) (a3 : Int32) (h : HP) : Option (Int32 × HP) :=
  if (a1 * a2) ≤ (h.1 0 10) then
    (lt (up h 0 10 0) fun h1 =>
    xX11_hose_60 N N a1 a2 a3 0 0 h1)
  else
    (xX11_hose_47 N h)
def xX11_hose (N : Nat) (a1 : Int32) (a2 : Int32) (a3 : Int32) (h : HP) : Option (Int32 × HP) :=
  cl (xX11_in a1 1 12 h) fun t1 h2 =>
  if t1 = 0 then
    (xX11_hose_47 N h2)
  else
    (cl (xX11_in a2 1 6 h2) fun t3 h4 =>
    if t3 = 0 then
      (xX11_hose_47 N h4)
    else
      (cl (xX11_in a3 0 (a1 - 1) h4) fun t5 h6 =>
      if t5 ≠ 0 then
        (xX11_hose_37 N a1 a2 a3 h6)
      else
        (if a3 ≠ (100 : Int32) then
          (xX11_hose_47 N h6)
        else
          (xX11_hose_37 N a1 a2 a3 h6))))
def xX11_seed (a1 : Int32) (h : HP) : Option (Int32 × HP) :=
  cl (xX11_in a1 0 65535 h) fun t1 h2 =>
  if t1 ≠ 0 then
    (ast h2 1 75 74 a1 fun h3 =>
    zok 1 (some (1, h3)))
  else
    (zok 0 (some (0, h2)))
def xX11_keep (N : Nat) (h : HP) : Option (Int32 × HP) :=
  zok 1 <| lt (up h 0 58 1) fun h1 =>
  lt (up h1 0 59 (h1.1 0 7)) fun h2 =>
  lt (up h2 0 60 (h2.1 0 8)) fun h3 =>
  cl (xX11_copies N 1 3 h3) fun t4 h5 =>
  ald h5 1 75 73 fun t6 =>
  some (t6, h5)
def xX11_undo_63 (N : Nat) (K19 : Int32 → Int32 → HP → Option (Int32 × HP)) (a1 : Int32) (a2 : Int32) (s1 : Int32) (s2 : Int32) (h : HP) : Option (Int32 × HP) :=
  ast h 1 75 s1 s2 fun h1 =>
  lt (a2 + 16) fun v2 =>
  K19 a1 v2 h1
def xX11_undo_62 (N : Nat) (K19 : Int32 → Int32 → HP → Option (Int32 × HP)) (a1 : Int32) (a2 : Int32) (s1 : Int32) (h : HP) : Option (Int32 × HP) :=
  xX11_undo_63 N K19 a1 a2 s1 0 h
def xX11_undo_19 (N : Nat) (K11 : Int32 → HP → Option (Int32 × HP)) : Nat → Int32 → Int32 → HP → Option (Int32 × HP)
  | 0 => fun _ _ _ => none
  | n + 1 => fun a1 a2 h =>
    if (48 : Int32) ≤ a2 then
      (lt (a1 + 1) fun v1 =>
      K11 v1 h)
    else
      (cl (xX11_isTold a1 h) fun t2 h3 =>
      if t2 = 0 then
        (xX11_undo_62 N (xX11_undo_19 N K11 n) a1 a2 (a2 + a1) h3)
      else
        (cl (xX11_has (h3.1 0 59) a1 h3) fun t4 h5 =>
        if t4 = 0 then
          (xX11_undo_62 N (xX11_undo_19 N K11 n) a1 a2 (a2 + a1) h5)
        else
          (ald h5 3 75 (a2 + a1) fun t6 =>
          xX11_undo_63 N (xX11_undo_19 N K11 n) a1 a2 (a2 + a1) t6 h5)))
def xX11_undo_117 (N : Nat) (K80 : Int32 → HP → Option (Int32 × HP)) (a1 : Int32) (s1 : Int32) (s2 : Int32) (h : HP) : Option (Int32 × HP) :=
  ast h 1 75 s1 s2 fun h1 =>
  lt (a1 + 1) fun v2 =>
  K80 v2 h1
def xX11_undo_80 (N : Nat) : Nat → Int32 → HP → Option (Int32 × HP)
  | 0 => fun _ _ => none
  | n + 1 => fun a1 h =>
    if (h.1 0 8) ≤ a1 then
      (ald h 3 75 72 fun t1 =>
      ast h 1 75 72 t1 fun h2 =>
      ald h2 3 75 73 fun t3 =>
      ast h2 1 75 73 t3 fun h4 =>
      ald h4 3 75 74 fun t5 =>
      ast h4 1 75 74 t5 fun h6 =>
      zok 1 (some (1, h6)))
    else
      (if (h.1 0 60) ≤ a1 then
        (xX11_undo_117 N (xX11_undo_80 N n) a1 (48 + a1) 1 h)
      else
        (ald h 3 75 (48 + a1) fun t7 =>
        xX11_undo_117 N (xX11_undo_80 N n) a1 (48 + a1) t7 h))
def xX11_undo_11 (N : Nat) : Nat → Int32 → HP → Option (Int32 × HP)
  | 0 => fun _ _ => none
  | n + 1 => fun a1 h =>
    if (16 : Int32) ≤ a1 then
      (xX11_undo_80 N N 0 h)
    else
      (xX11_undo_19 N (xX11_undo_11 N n) N a1 0 h)
def xX11_undo (N : Nat) (h : HP) : Option (Int32 × HP) :=
  if (h.1 0 58) ≠ 0 then
    (xX11_undo_11 N N 0 h)
  else
    (zok 0 (some (0, h)))
def xX11_check_18 (N : Nat) (h : HP) : Option (Int32 × HP) :=
  some ((-2), h)
def xX11_check_61 (N : Nat) (K28 : Int32 → Int32 → HP → Option (Int32 × HP)) (a1 : Int32) (a2 : Int32) (s0 : Int32) (s1 : Int32) (h : HP) : Option (Int32 × HP) :=
  if s0 = s1 then
    (lt (a2 + 1) fun v1 =>
    K28 a1 v1 h)
  else
    (some (a2, h))
def xX11_check_28 (N : Nat) : Nat → Int32 → Int32 → HP → Option (Int32 × HP)
  | 0 => fun _ _ _ => none
  | n + 1 => fun a1 a2 h =>
    if a1 ≤ a2 then
      (some ((-1), h))
    else
      (cl (xX11_octet a2 h) fun t1 h2 =>
      cl (xX11_isTold a2 h2) fun t3 h4 =>
      if t3 = 0 then
        (xX11_check_61 N (xX11_check_28 N n) a1 a2 t1 255 h4)
      else
        (ald h4 1 75 (16 + a2) fun t5 =>
        xX11_check_61 N (xX11_check_28 N n) a1 a2 t1 t5 h4))
def xX11_check (N : Nat) (a1 : Int32) (h : HP) : Option (Int32 × HP) :=
  cl (xX11_in a1 0 16 h) fun t1 h2 =>
  if t1 = 0 then
    (xX11_check_18 N h2)
  else
    (if a1 ≤ (h2.1 0 10) then
      (lt (up h2 0 10 0) fun h3 =>
      xX11_check_28 N N a1 0 h3)
    else
      (xX11_check_18 N h2))
def xX11_openPipes_24 (N : Nat) (K4 : Int32 → Int32 → HP → Option (Int32 × HP)) (a1 : Int32) (a2 : Int32) (h : HP) : Option (Int32 × HP) :=
  lt (a2 + 1) fun v1 =>
  K4 a1 v1 h
def xX11_openPipes_4 (N : Nat) : Nat → Int32 → Int32 → HP → Option (Int32 × HP)
  | 0 => fun _ _ _ => none
  | n + 1 => fun a1 a2 h =>
    if (h.1 0 8) ≤ a2 then
      (some (a1, h))
    else
      (cl (xX11_isOpen a2 h) fun t1 h2 =>
      if t1 = 0 then
        (xX11_openPipes_24 N (xX11_openPipes_4 N n) a1 a2 h2)
      else
        (lt (a1 + 1) fun v3 =>
        xX11_openPipes_24 N (xX11_openPipes_4 N n) v3 a2 h2))
def xX11_openPipes (N : Nat) (h : HP) : Option (Int32 × HP) :=
  xX11_openPipes_4 N N 0 0 h
def xX11_count (N : Nat) (a1 : Int32) (h : HP) : Option (Int32 × HP) :=
  if a1 = 0 then
    (ald h 1 75 73 fun t1 =>
    some (t1, h))
  else if a1 = 1 then
    (some (h.1 0 7, h))
  else if a1 = 2 then
    (some (h.1 0 8, h))
  else if a1 = 3 then
    (cl (xX11_openPipes N h) fun t2 h3 =>
    some (t2, h3))
  else if a1 = 4 then
    (ald h 1 75 72 fun t4 =>
    some (t4, h))
  else if a1 = 5 then
    (some (h.1 0 19, h))
  else if a1 = 6 then
    (some (h.1 0 10, h))
  else if a1 = 7 then
    (ald h 1 75 74 fun t5 =>
    some (t5, h))
  else if a1 = 8 then
    (cl (xX11_sumOf N 0 h) fun t6 h7 =>
    some (t6, h7))
  else if a1 = 9 then
    (cl (xX11_sumOf N 32 h) fun t8 h9 =>
    some (t8, h9))
  else if a1 = 10 then
    (cl (xX11_groups N h) fun t10 h11 =>
    some (t10, h11))
  else (some ((-1), h))
