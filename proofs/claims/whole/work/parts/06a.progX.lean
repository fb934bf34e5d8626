def xJ7_fill_53178_5 (N : Nat) (na : Nat) (ka : Nat) : Nat → Int32 → Int32 → Int32 → HP → Option (Int32 × HP)
  | 0 => fun _ _ _ _ => none
  | n + 1 => fun a1 a2 a3 h =>
    if a3 ≤ a2 then
      (some (0, h))
    else
      (ast h ka na a2 a1 fun h1 =>
      lt (a2 + 1) fun v2 =>
      (xJ7_fill_53178_5 N na ka n) a1 v2 a3 h1)
def xJ7_fill_53178 (N : Nat) (na : Nat) (ka : Nat) (a1 : Int32) (h : HP) : Option (Int32 × HP) :=
  lt (nI na) fun v1 =>
  xJ7_fill_53178_5 N na ka N a1 0 v1 h
def xX0_choicesOf_4 (N : Nat) : Nat → Int32 → Int32 → Int32 → HP → Option (Int32 × HP)
  | 0 => fun _ _ _ _ => none
  | n + 1 => fun a0 a1 a2 h =>
    if a0 ≤ a2 then
      (some (a1, h))
    else
      (lt (a1 * 9) fun v1 =>
      lt (a2 + 1) fun v2 =>
      (xX0_choicesOf_4 N n) a0 v1 v2 h)
def xX0_choicesOf (N : Nat) (a0 : Int32) (h : HP) : Option (Int32 × HP) :=
  xX0_choicesOf_4 N N a0 1 0 h
def xX7_byteAt_22 (s0 : Int32) (h : HP) : Option (Int32 × HP) :=
  some (s0, h)
def xX7_byteAt_21 (h : HP) : Option (Int32 × HP) :=
  xX7_byteAt_22 0 h
def xX7_byteAt (a1 : Int32) (h : HP) : Option (Int32 × HP) :=
  if a1 < 0 then
    (xX7_byteAt_21 h)
  else
    (if (h.1 1 3) ≤ a1 then
      (xX7_byteAt_21 h)
    else
      (ald h 2 260 a1 fun t1 =>
      xX7_byteAt_22 t1 h))
def xX0_turnKeys_17 (N : Nat) : Nat → Int32 → Int32 → Int32 → HP → Option (Int32 × HP)
  | 0 => fun _ _ _ _ => none
  | n + 1 => fun a3 a5 a6 h =>
    if a3 ≤ a6 then
      (some (0, h))
    else
      (lt (irem a5 9) fun v1 =>
      lt (a5 / 9) fun v2 =>
      cl (xX7_byteAt a6 h) fun t3 h4 =>
      lt (up h4 56 1 ((h.1 56 1) + (v1 * t3))) fun h5 =>
      lt (up h5 56 2 ((h5.1 56 2) + v1)) fun h6 =>
      lt (a6 + 1) fun v7 =>
      (xX0_turnKeys_17 N n) a3 v2 v7 h6)
def xX0_turnKeys (N : Nat) (a2 : Int32) (a3 : Int32) (a4 : Int32) (h : HP) : Option (Int32 × HP) :=
  lt (up h 56 1 0) fun h1 =>
  lt (up h1 56 2 0) fun h2 =>
  xX0_turnKeys_17 N N a3 a4 a2 h2
def xX0_layOut_66 (N : Nat) (K16 : Int32 → Int32 → Int32 → HP → Option (Int32 × HP)) (a2 : Int32) (a3 : Int32) (a4 : Int32) (a5 : Int32) (s0 : Int32) (h : HP) : Option (Int32 × HP) :=
  ast h 57 8161 (h.1 56 1) ((((a5 >>> (6 &&& 31)) + 1) <<< (6 &&& 31)) ||| s0) fun h1 =>
  lt (a4 + 1) fun v2 =>
  K16 a2 a3 v2 h1
def xX0_layOut_16 (N : Nat) : Nat → Int32 → Int32 → Int32 → HP → Option (Int32 × HP)
  | 0 => fun _ _ _ _ => none
  | n + 1 => fun a2 a3 a4 h =>
    if a3 ≤ a4 then
      (some (0, h))
    else
      (cl (xX0_turnKeys N 0 a2 a4 h) fun t1 h2 =>
      ald h2 57 8161 (h2.1 56 1) fun t3 =>
      if t3 ≠ 0 then
        (xX0_layOut_66 N (xX0_layOut_16 N n) a2 a3 a4 t3 (imn (h2.1 56 2) (t3 &&& 63)) h2)
      else
        (xX0_layOut_66 N (xX0_layOut_16 N n) a2 a3 a4 t3 (h2.1 56 2) h2))
def xX0_layOut (N : Nat) (a2 : Int32) (h : HP) : Option (Int32 × HP) :=
  cl (xJ7_fill_53178 N 8161 57 0 h) fun t1 h2 =>
  cl (xX0_choicesOf N a2 h2) fun t3 h4 =>
  xX0_layOut_16 N N a2 t3 0 h4
def xX0_reckon_130 (N : Nat) (K35 : Int32 → Int32 → Int32 → Int32 → Int32 → HP → Option (Int32 × HP)) (a2 : Int32) (a3 : Int32) (a4 : Int32) (a5 : Int32) (a6 : Int32) (h : HP) : Option (Int32 × HP) :=
  lt (a6 + 1) fun v1 =>
  K35 a2 a3 a4 a5 v1 h
def xX0_reckon_35 (N : Nat) : Nat → Int32 → Int32 → Int32 → Int32 → Int32 → HP → Option (Int32 × HP)
  | 0 => fun _ _ _ _ _ _ => none
  | n + 1 => fun a2 a3 a4 a5 a6 h =>
    if a5 ≤ a6 then
      (some (0, h))
    else
      (cl (xX0_turnKeys N a4 a2 a6 h) fun t1 h2 =>
      lt (a3 - (h2.1 56 1)) fun v3 =>
      if v3 < 0 then
        (xX0_reckon_130 N (xX0_reckon_35 N n) a2 a3 a4 a5 a6 h2)
      else
        (if (8161 : Int32) ≤ v3 then
          (xX0_reckon_130 N (xX0_reckon_35 N n) a2 a3 a4 a5 a6 h2)
        else
          (ald h2 57 8161 v3 fun t4 =>
          if t4 = 0 then
            (xX0_reckon_130 N (xX0_reckon_35 N n) a2 a3 a4 a5 a6 h2)
          else
            (ald h2 57 8161 v3 fun t5 =>
            lt (up h2 56 3 ((h2.1 56 3) + (t5 >>> (6 &&& 31)))) fun h6 =>
            ald h6 57 8161 v3 fun t7 =>
            lt (up h6 56 4 (imn (h6.1 56 4) ((h6.1 56 2) + (t7 &&& 63)))) fun h8 =>
            xX0_reckon_130 N (xX0_reckon_35 N n) a2 a3 a4 a5 a6 h8))))
def xX0_reckon (N : Nat) (a2 : Int32) (a3 : Int32) (h : HP) : Option (Int32 × HP) :=
  lt (a2 / 2) fun v1 =>
  cl (xX0_layOut N v1 h) fun t2 h3 =>
  lt (up h3 56 3 0) fun h4 =>
  lt (up h4 56 4 64) fun h5 =>
  cl (xX0_choicesOf N (a2 - v1) h5) fun t6 h7 =>
  xX0_reckon_35 N N a2 a3 v1 t6 0 h7
def xX10_hasBit_14 (s0 : Int32) (h : HP) : Option (Int32 × HP) :=
  zok s0 (some (s0, h))
def xX10_hasBit (a0 : Int32) (a1 : Int32) (h : HP) : Option (Int32 × HP) :=
  if ((a0 >>> (a1 &&& 31)) &&& 1) ≠ (1 : Int32) then
    (xX10_hasBit_14 0 h)
  else
    (xX10_hasBit_14 1 h)
def xX1_spreadFrom_60 (N : Nat) (K4 : Int32 → Int32 → Int32 → HP → Option (Int32 × HP)) (a1 : Int32) (a2 : Int32) (a3 : Int32) (h : HP) : Option (Int32 × HP) :=
  lt (a3 + 1) fun v1 =>
  K4 a1 a2 v1 h
def xX1_spreadFrom_4 (N : Nat) : Nat → Int32 → Int32 → Int32 → HP → Option (Int32 × HP)
  | 0 => fun _ _ _ _ => none
  | n + 1 => fun a1 a2 a3 h =>
    if (16 : Int32) ≤ a3 then
      (some (a2, h))
    else
      (cl (xX10_hasBit (h.1 49 3) a3 h) fun t1 h2 =>
      if t1 ≠ 0 then
        (xX1_spreadFrom_60 N (xX1_spreadFrom_4 N n) a1 a2 a3 h2)
      else
        (ald h2 50 256 ((a1 * 16) + a3) fun t3 =>
        if t3 ≤ 0 then
          (xX1_spreadFrom_60 N (xX1_spreadFrom_4 N n) a1 a2 a3 h2)
        else
          (lt (up h2 49 3 ((h2.1 49 3) ||| (1 <<< (a3 &&& 31)))) fun h4 =>
          lt (a2 ||| (1 <<< (a3 &&& 31))) fun v5 =>
          ast h4 51 16 a3 a1 fun h6 =>
          xX1_spreadFrom_60 N (xX1_spreadFrom_4 N n) a1 v5 a3 h6)))
def xX1_spreadFrom (N : Nat) (a1 : Int32) (h : HP) : Option (Int32 × HP) :=
  xX1_spreadFrom_4 N N a1 0 0 h
def xX1_seek_57 (N : Nat) (K30 : Int32 → Int32 → Int32 → Int32 → HP → Option (Int32 × HP)) (a2 : Int32) (a3 : Int32) (a4 : Int32) (a5 : Int32) (h : HP) : Option (Int32 × HP) :=
  lt (a5 + 1) fun v1 =>
  K30 a2 a3 a4 v1 h
def xX1_seek_30 (N : Nat) (K14 : Int32 → Int32 → HP → Option (Int32 × HP)) : Nat → Int32 → Int32 → Int32 → Int32 → HP → Option (Int32 × HP)
  | 0 => fun _ _ _ _ _ => none
  | n + 1 => fun a2 a3 a4 a5 h =>
    if (16 : Int32) ≤ a5 then
      (lt (a3 + 1) fun v1 =>
      K14 a4 v1 h)
    else
      (cl (xX10_hasBit a2 a5 h) fun t2 h3 =>
      if t2 = 0 then
        (xX1_seek_57 N (xX1_seek_30 N K14 n) a2 a3 a4 a5 h3)
      else
        (cl (xX1_spreadFrom N a5 h3) fun t4 h5 =>
        lt (a4 ||| t4) fun v6 =>
        xX1_seek_57 N (xX1_seek_30 N K14 n) a2 a3 v6 a5 h5))
def xX1_seek_72 (N : Nat) (h : HP) : Option (Int32 × HP) :=
  some (0, h)
def xX1_seek_14 (N : Nat) : Nat → Int32 → Int32 → HP → Option (Int32 × HP)
  | 0 => fun _ _ _ => none
  | n + 1 => fun a2 a3 h =>
    if (16 : Int32) ≤ a3 then
      (xX1_seek_72 N h)
    else
      (if a2 = 0 then
        (xX1_seek_72 N h)
      else
        (xX1_seek_30 N (xX1_seek_14 N n) N a2 a3 0 0 h))
def xX1_seek (N : Nat) (a1 : Int32) (h : HP) : Option (Int32 × HP) :=
  lt (up h 49 3 (1 <<< (a1 &&& 31))) fun h1 =>
  lt (h1.1 49 3) fun v2 =>
  xX1_seek_14 N N v2 0 h1
def xX1_pushBy_139 (N : Nat) (a3 : Int32) (h : HP) : Option (Int32 × HP) :=
  some (a3, h)
def xX1_pushBy_67 (N : Nat) : Nat → Int32 → Int32 → Int32 → Int32 → HP → Option (Int32 × HP)
  | 0 => fun _ _ _ _ _ => none
  | n + 1 => fun a1 a3 a4 a5 h =>
    if (16 : Int32) ≤ a5 then
      (xX1_pushBy_139 N a3 h)
    else
      (if a4 = a1 then
        (xX1_pushBy_139 N a3 h)
      else
        (ald h 51 16 a4 fun t1 =>
        ald h 50 256 ((t1 * 16) + a4) fun t2 =>
        ast h 50 256 ((t1 * 16) + a4) (t2 - a3) fun h3 =>
        ald h3 51 16 a4 fun t4 =>
        ald h3 50 256 ((a4 * 16) + t4) fun t5 =>
        ast h3 50 256 ((a4 * 16) + t4) (t5 + a3) fun h6 =>
        ald h6 51 16 a4 fun t7 =>
        lt (a5 + 1) fun v8 =>
        (xX1_pushBy_67 N n) a1 a3 t7 v8 h6))
def xX1_pushBy_61 (N : Nat) (a1 : Int32) (a2 : Int32) (a3 : Int32) (h : HP) : Option (Int32 × HP) :=
  xX1_pushBy_67 N N a1 a3 a2 0 h
def xX1_pushBy_10 (N : Nat) : Nat → Int32 → Int32 → Int32 → Int32 → Int32 → HP → Option (Int32 × HP)
  | 0 => fun _ _ _ _ _ _ => none
  | n + 1 => fun a1 a2 a3 a4 a5 h =>
    if (16 : Int32) ≤ a5 then
      (xX1_pushBy_61 N a1 a2 a3 h)
    else
      (if a4 = a1 then
        (xX1_pushBy_61 N a1 a2 a3 h)
      else
        (ald h 51 16 a4 fun t1 =>
        ald h 50 256 ((t1 * 16) + a4) fun t2 =>
        lt (imn a3 t2) fun v3 =>
        ald h 51 16 a4 fun t4 =>
        lt (a5 + 1) fun v5 =>
        (xX1_pushBy_10 N n) a1 a2 v3 t4 v5 h))
def xX1_pushBy (N : Nat) (a1 : Int32) (a2 : Int32) (h : HP) : Option (Int32 × HP) :=
  xX1_pushBy_10 N N a1 a2 2376 a2 0 h
def xX1_push_121 (N : Nat) (K11 : Int32 → Int32 → Int32 → Int32 → Int32 → HP → Option (Int32 × HP)) (a1 : Int32) (a2 : Int32) (a3 : Int32) (a4 : Int32) (a5 : Int32) (h : HP) : Option (Int32 × HP) :=
  lt (a5 + 1) fun v1 =>
  K11 a1 a2 a3 a4 v1 h
def xX1_push_51 (N : Nat) (K11 : Int32 → Int32 → Int32 → Int32 → Int32 → HP → Option (Int32 × HP)) (a1 : Int32) (a2 : Int32) (a3 : Int32) (a4 : Int32) (a5 : Int32) (s0 : Int32) (h : HP) : Option (Int32 × HP) :=
  ald h 5 24 a5 fun t1 =>
  ald h 6 24 a5 fun t2 =>
  ald h 50 256 ((t1 * 16) + t2) fun t3 =>
  ast h 50 256 ((t1 * 16) + t2) (t3 + s0) fun h4 =>
  ald h4 6 24 a5 fun t5 =>
  ald h4 5 24 a5 fun t6 =>
  ald h4 50 256 ((t5 * 16) + t6) fun t7 =>
  ast h4 50 256 ((t5 * 16) + t6) (t7 + s0) fun h8 =>
  xX1_push_121 N K11 a1 a2 a3 a4 a5 h8
def xX1_push_133 (N : Nat) : Nat → Int32 → Int32 → Int32 → Int32 → HP → Option (Int32 × HP)
  | 0 => fun _ _ _ _ _ => none
  | n + 1 => fun a1 a2 a5 a6 h =>
    if (2376 : Int32) < a6 then
      (some (a5, h))
    else
      (cl (xX1_seek N a1 h) fun t1 h2 =>
      cl (xX10_hasBit (h2.1 49 3) a2 h2) fun t3 h4 =>
      if t3 ≠ 0 then
        (cl (xX1_pushBy N a1 a2 h4) fun t5 h6 =>
        lt (a5 + t5) fun v7 =>
        lt (a6 + 1) fun v8 =>
        (xX1_push_133 N n) a1 a2 v7 v8 h6)
      else
        (some (a5, h4)))
def xX1_push_11 (N : Nat) : Nat → Int32 → Int32 → Int32 → Int32 → Int32 → HP → Option (Int32 × HP)
  | 0 => fun _ _ _ _ _ _ => none
  | n + 1 => fun a1 a2 a3 a4 a5 h =>
    if (h.1 3 5) ≤ a5 then
      (xX1_push_133 N N a1 a2 0 0 h)
    else
      (cl (xX10_hasBit a3 a5 h) fun t1 h2 =>
      if t1 = 0 then
        (xX1_push_121 N (xX1_push_11 N n) a1 a2 a3 a4 a5 h2)
      else
        (if a4 = 0 then
          (ald h2 7 24 a5 fun t3 =>
          xX1_push_51 N (xX1_push_11 N n) a1 a2 a3 a4 a5 t3 h2)
        else
          (xX1_push_51 N (xX1_push_11 N n) a1 a2 a3 a4 a5 1 h2)))
def xX1_push (N : Nat) (a1 : Int32) (a2 : Int32) (a3 : Int32) (a4 : Int32) (h : HP) : Option (Int32 × HP) :=
  cl (xJ7_fill_53178 N 256 50 0 h) fun t1 h2 =>
  xX1_push_11 N N a1 a2 a3 a4 0 h2
def xX2_become (h : HP) : Option (Int32 × HP) :=
  lt (cpyA h 21 14 240) fun h1 =>
  lt (cpyA h1 22 15 240) fun h2 =>
  lt (cpyA h2 23 16 16) fun h3 =>
  lt (cpyA h3 24 17 16) fun h4 =>
  lt (cpyA h4 25 18 16) fun h5 =>
  lt (cpyA h5 26 19 16) fun h6 =>
  lt (up h6 13 6 (h6.1 20 6)) fun h7 =>
  lt (up h7 13 7 (h7.1 20 7)) fun h8 =>
  some (0, h8)
def xX7_peek_24 (s0 : Int32) (h : HP) : Option (Int32 × HP) :=
  some (s0, h)
def xX7_peek (h : HP) : Option (Int32 × HP) :=
  if (h.1 1 3) ≤ (h.1 1 2) then
    (xX7_peek_24 (-1) h)
  else
    (ald h 2 260 (h.1 1 2) fun t1 =>
    xX7_peek_24 t1 h)
def xX7_refuse (a1 : Int32) (a2 : Int32) (h : HP) : Option (Int32 × HP) :=
  lt (up h 1 4 (((-1000) * a1) - a2)) fun h1 =>
  zok 0 (some (0, h1))
def xX7_takes (a1 : Int32) (h : HP) : Option (Int32 × HP) :=
  cl (xX7_peek h) fun t1 h2 =>
  if t1 = a1 then
    (lt (up h2 1 2 ((h2.1 1 2) + 1)) fun h3 =>
    zok 1 (some (1, h3)))
  else
    (zok 0 (some (0, h2)))
def xX2_write (a1 : Int32) (a2 : Int32) (h : HP) : Option (Int32 × HP) :=
  if (h.1 20 6) < (240 : Int32) then
    (ast h 21 240 (h.1 20 6) a1 fun h1 =>
    ast h1 22 240 (h1.1 20 6) a2 fun h2 =>
    lt (up h2 20 6 ((h2.1 20 6) + 1)) fun h3 =>
    some ((h3.1 20 6) - 1, h3))
  else
    (some ((-1), h))
def xX2_land_42 (N : Nat) (h : HP) : Option (Int32 × HP) :=
  some (0, h)
def xX2_land_4 (N : Nat) : Nat → Int32 → Int32 → HP → Option (Int32 × HP)
  | 0 => fun _ _ _ => none
  | n + 1 => fun a2 a3 h =>
    if (240 : Int32) ≤ a3 then
      (xX2_land_42 N h)
    else
      (if a2 < 0 then
        (xX2_land_42 N h)
      else
        (ald h 22 240 a2 fun t1 =>
        ast h 22 240 a2 (h.1 20 6) fun h2 =>
        lt (a3 + 1) fun v3 =>
        (xX2_land_4 N n) t1 v3 h2))
def xX2_land (N : Nat) (a1 : Int32) (h : HP) : Option (Int32 × HP) :=
  xX2_land_4 N N a1 0 h
def xX7_demands (a1 : Int32) (h : HP) : Option (Int32 × HP) :=
  cl (xX7_peek h) fun t1 h2 =>
  if t1 = a1 then
    (lt (up h2 1 2 ((h2.1 1 2) + 1)) fun h3 =>
    zok 1 (some (1, h3)))
  else
    (cl (xX7_refuse 1 (h2.1 1 2) h2) fun t4 h5 =>
    zok t4 (some (t4, h5)))
def xX7_readNumber_69 (N : Nat) (s1 : Int32) (h : HP) : Option (Int32 × HP) :=
  cl (xX7_refuse s1 (h.1 1 2) h) fun t1 h2 =>
  some ((-1), h2)
def xX7_readNumber_58 (N : Nat) (a5 : Int32) (h : HP) : Option (Int32 × HP) :=
  if a5 = 0 then
    (xX7_readNumber_69 N 1 h)
  else
    (xX7_readNumber_69 N 2 h)
def xX7_readNumber_48 (N : Nat) (K4 : Int32 → Int32 → Int32 → HP → Option (Int32 × HP)) (a1 : Int32) (a2 : Int32) (a3 : Int32) (a4 : Int32) (a5 : Int32) (h : HP) : Option (Int32 × HP) :=
  if a5 = 0 then
    (xX7_readNumber_58 N a5 h)
  else
    (if a3 ≠ a1 then
      (lt ((a2 * 10) + a4) fun v1 =>
      lt (up h 1 2 ((h.1 1 2) + 1)) fun h2 =>
      lt (a3 + 1) fun v3 =>
      K4 a1 v1 v3 h2)
    else
      (xX7_readNumber_58 N a5 h))
def xX7_readNumber_35 (N : Nat) (K4 : Int32 → Int32 → Int32 → HP → Option (Int32 × HP)) (a1 : Int32) (a2 : Int32) (a3 : Int32) (a4 : Int32) (s0 : Int32) (h : HP) : Option (Int32 × HP) :=
  if s0 ≠ 0 then
    (xX7_readNumber_48 N K4 a1 a2 a3 a4 s0 h)
  else
    (if a3 ≤ 0 then
      (xX7_readNumber_48 N K4 a1 a2 a3 a4 s0 h)
    else
      (some (a2, h)))
def xX7_readNumber_34 (N : Nat) (K4 : Int32 → Int32 → Int32 → HP → Option (Int32 × HP)) (a1 : Int32) (a2 : Int32) (a3 : Int32) (a4 : Int32) (h : HP) : Option (Int32 × HP) :=
  xX7_readNumber_35 N K4 a1 a2 a3 a4 0 h
def xX7_readNumber_4 (N : Nat) : Nat → Int32 → Int32 → Int32 → HP → Option (Int32 × HP)
  | 0 => fun _ _ _ _ => none
  | n + 1 => fun a1 a2 a3 h =>
    if a1 < a3 then
      (some ((-1), h))
    else
      (cl (xX7_peek h) fun t1 h2 =>
      lt (t1 - 48) fun v3 =>
      if v3 < 0 then
        (xX7_readNumber_34 N (xX7_readNumber_4 N n) a1 a2 a3 v3 h2)
      else
        (if (9 : Int32) < v3 then
          (xX7_readNumber_34 N (xX7_readNumber_4 N n) a1 a2 a3 v3 h2)
        else
          (xX7_readNumber_35 N (xX7_readNumber_4 N n) a1 a2 a3 v3 1 h2)))
def xX7_readNumber (N : Nat) (a1 : Int32) (h : HP) : Option (Int32 × HP) :=
  xX7_readNumber_4 N N a1 0 0 h
def xJ0_isLatin1_aae02_18 (s0 : Int32) (h : HP) : Option (Int32 × HP) :=
  zok s0 (some (s0, h))
def xJ0_isLatin1_aae02_17 (h : HP) : Option (Int32 × HP) :=
  xJ0_isLatin1_aae02_18 0 h
def xJ0_isLatin1_aae02 (h : HP) : Option (Int32 × HP) :=
  if (1 : Int32) = 0 then
    (xJ0_isLatin1_aae02_17 h)
  else
    (if (0 : Int32) ≠ 0 then
      (xJ0_isLatin1_aae02_17 h)
    else
      (xJ0_isLatin1_aae02_18 1 h))
def xJ0_coder_7d493_14 (s0 : Int32) (h : HP) : Option (Int32 × HP) :=
  zok s0 (some (s0, h))
def xJ0_coder_7d493 (h : HP) : Option (Int32 × HP) :=
  if (1 : Int32) = 0 then
    (xJ0_coder_7d493_14 1 h)
  else
    (xJ0_coder_7d493_14 0 h)
def xJ0_length_8abf5 (h : HP) : Option (Int32 × HP) :=
  cl (xJ0_coder_7d493 h) fun t1 h2 =>
  some (10 >>> (t1 &&& 31), h2)
def xJ1_canEncode_9a6ad_16 (s0 : Int32) (h : HP) : Option (Int32 × HP) :=
  zok s0 (some (s0, h))
def xJ1_canEncode_9a6ad_15 (h : HP) : Option (Int32 × HP) :=
  xJ1_canEncode_9a6ad_16 0 h
def xJ1_canEncode_9a6ad (a0 : Int32) (h : HP) : Option (Int32 × HP) :=
  if a0 < 0 then
    (xJ1_canEncode_9a6ad_15 h)
  else
    (if (255 : Int32) < a0 then
      (xJ1_canEncode_9a6ad_15 h)
    else
      (xJ1_canEncode_9a6ad_16 1 h))
def xJ1_indexOfChar_4cfef_7 (N : Nat) : Nat → Int32 → Int32 → Int32 → HP → Option (Int32 × HP)
  | 0 => fun _ _ _ _ => none
  | n + 1 => fun a3 a4 a5 h =>
    if a3 ≤ a5 then
      (some ((-1), h))
    else
      (sld a5 fun t1 =>
      if t1 ≠ a4 then
        (lt (a5 + 1) fun v2 =>
        (xJ1_indexOfChar_4cfef_7 N n) a3 a4 v2 h)
      else
        (some (a5, h)))
def xJ1_indexOfChar_4cfef (N : Nat) (a1 : Int32) (a2 : Int32) (a3 : Int32) (h : HP) : Option (Int32 × HP) :=
  lt a1.toInt8.toInt32 fun v1 =>
  xJ1_indexOfChar_4cfef_7 N N a3 v1 a2 h
def xJ1_indexOf_4cfef (N : Nat) (a1 : Int32) (a2 : Int32) (a3 : Int32) (h : HP) : Option (Int32 × HP) :=
  cl (xJ1_canEncode_9a6ad a1 h) fun t1 h2 =>
  if t1 ≠ 0 then
    (lt (imx a2 0) fun v3 =>
    lt (imn a3 10) fun v4 =>
    if v3 < v4 then
      (cl (xJ1_indexOfChar_4cfef N a1 v3 v4 h2) fun t5 h6 =>
      some (t5, h6))
    else
      (some ((-1), h2)))
  else
    (some ((-1), h2))
def xJ0_indexOf_7cf53_36 (N : Nat) (s0 : Int32) (h : HP) : Option (Int32 × HP) :=
  some (s0, h)
def xJ0_indexOf_7cf53 (N : Nat) (a1 : Int32) (a2 : Int32) (h : HP) : Option (Int32 × HP) :=
  cl (xJ0_isLatin1_aae02 h) fun t1 h2 =>
  if t1 = 0 then
    (cl (xJ0_length_8abf5 h2) fun t3 h4 =>
    none)
  else
    (cl (xJ0_length_8abf5 h2) fun t5 h6 =>
    cl (xJ1_indexOf_4cfef N a1 a2 t5 h6) fun t7 h8 =>
    xJ0_indexOf_7cf53_36 N t7 h8)
def xJ0_indexOf_0f7a4 (N : Nat) (a1 : Int32) (h : HP) : Option (Int32 × HP) :=
  cl (xJ0_indexOf_7cf53 N a1 0 h) fun t1 h2 =>
  some (t1, h2)
def xX2_isLetter_19 (N : Nat) (s0 : Int32) (h : HP) : Option (Int32 × HP) :=
  zok s0 (some (s0, h))
def xX2_isLetter_18 (N : Nat) (h : HP) : Option (Int32 × HP) :=
  xX2_isLetter_19 N 0 h
def xX2_isLetter (N : Nat) (a0 : Int32) (h : HP) : Option (Int32 × HP) :=
  if a0 ≤ 0 then
    (xX2_isLetter_18 N h)
  else
    (cl (xJ0_indexOf_0f7a4 N (i2c a0) h) fun t1 h2 =>
    if t1 < 0 then
      (xX2_isLetter_18 N h2)
    else
      (xX2_isLetter_19 N 1 h2))
def xX2_readCondition_81 (N : Nat) (c_X2_readTest : Int32 → HP → Option (Int32 × HP)) (K8 : Int32 → Int32 → Int32 → Int32 → HP → Option (Int32 × HP)) (a2 : Int32) (a3 : Int32) (a4 : Int32) (a5 : Int32) (h : HP) : Option (Int32 × HP) :=
  lt (a5 + 1) fun v1 =>
  K8 a2 a3 a4 v1 h
def xX2_readCondition_8 (N : Nat) (c_X2_readTest : Int32 → HP → Option (Int32 × HP)) : Nat → Int32 → Int32 → Int32 → Int32 → HP → Option (Int32 × HP)
  | 0 => fun _ _ _ _ _ => none
  | n + 1 => fun a2 a3 a4 a5 h =>
    if (240 : Int32) ≤ a5 then
      (zok 0 (some (0, h)))
    else
      (cl (c_X2_readTest a2 h) fun t1 h2 =>
      if t1 ≠ 0 then
        (cl (xX7_takes 38 h2) fun t3 h4 =>
        if t3 = 0 then
          (cl (xX2_land N a3 h4) fun t5 h6 =>
          cl (xX7_takes 124 h6) fun t7 h8 =>
          if t7 ≠ 0 then
            (cl (xX2_write 124 a4 h8) fun t9 h10 =>
            xX2_readCondition_81 N c_X2_readTest (xX2_readCondition_8 N c_X2_readTest n) a2 (-1) t9 a5 h10)
          else
            (cl (xX2_land N a4 h8) fun t11 h12 =>
            zok 1 (some (1, h12))))
        else
          (cl (xX2_write 38 a3 h4) fun t13 h14 =>
          xX2_readCondition_81 N c_X2_readTest (xX2_readCondition_8 N c_X2_readTest n) a2 t13 a4 a5 h14))
      else
        (zok 0 (some (0, h2))))
def xX2_readCondition (N : Nat) (c_X2_readTest : Int32 → HP → Option (Int32 × HP)) (a2 : Int32) (h : HP) : Option (Int32 × HP) :=
  xX2_readCondition_8 N c_X2_readTest N a2 (-1) (-1) 0 h
def xX2_readTest_59 (N : Nat) (c_X2_readCondition : Int32 → HP → Option (Int32 × HP)) (c_X2_readSum : Int32 → HP → Option (Int32 × HP)) (h : HP) : Option (Int32 × HP) :=
  cl (xX7_refuse 5 (h.1 1 2) h) fun t1 h2 =>
  zok t1 (some (t1, h2))
def xX2_readTest_106 (N : Nat) (c_X2_readCondition : Int32 → HP → Option (Int32 × HP)) (c_X2_readSum : Int32 → HP → Option (Int32 × HP)) (h : HP) : Option (Int32 × HP) :=
  zok 0 (some (0, h))
def xX2_readTest_188 (N : Nat) (c_X2_readCondition : Int32 → HP → Option (Int32 × HP)) (c_X2_readSum : Int32 → HP → Option (Int32 × HP)) : Nat → Int32 → Int32 → HP → Option (Int32 × HP)
  | 0 => fun _ _ _ => none
  | n + 1 => fun a3 a5 h =>
    if a3 ≤ a5 then
      (zok 1 (some (1, h)))
    else
      (cl (xX2_write 33 0 h) fun t1 h2 =>
      lt (a5 + 1) fun v3 =>
      (xX2_readTest_188 N c_X2_readCondition c_X2_readSum n) a3 v3 h2)
def xX2_readTest_185 (N : Nat) (c_X2_readCondition : Int32 → HP → Option (Int32 × HP)) (c_X2_readSum : Int32 → HP → Option (Int32 × HP)) (a2 : Int32) (a3 : Int32) (h : HP) : Option (Int32 × HP) :=
  xX2_readTest_188 N c_X2_readCondition c_X2_readSum N a3 a2 h
def xX2_readTest_156 (N : Nat) (c_X2_readCondition : Int32 → HP → Option (Int32 × HP)) (c_X2_readSum : Int32 → HP → Option (Int32 × HP)) (a2 : Int32) (a3 : Int32) (a5 : Int32) (h : HP) : Option (Int32 × HP) :=
  lt (up h 1 2 ((h.1 1 2) + 1)) fun h1 =>
  cl (c_X2_readSum a3 h1) fun t2 h3 =>
  if t2 ≠ 0 then
    (cl (xX2_write a5 0 h3) fun t4 h5 =>
    xX2_readTest_185 N c_X2_readCondition c_X2_readSum a2 a3 h5)
  else
    (zok 0 (some (0, h3)))
def xX2_readTest_69 (N : Nat) (c_X2_readCondition : Int32 → HP → Option (Int32 × HP)) (c_X2_readSum : Int32 → HP → Option (Int32 × HP)) (a2 : Int32) (a3 : Int32) (a4 : Int32) (h : HP) : Option (Int32 × HP) :=
  if a4 ≠ (40 : Int32) then
    (cl (c_X2_readSum a3 h) fun t1 h2 =>
    if t1 ≠ 0 then
      (cl (xX7_peek h2) fun t3 h4 =>
      if t3 = (60 : Int32) then
        (xX2_readTest_156 N c_X2_readCondition c_X2_readSum a2 a3 t3 h4)
      else
        (if t3 = (62 : Int32) then
          (xX2_readTest_156 N c_X2_readCondition c_X2_readSum a2 a3 t3 h4)
        else
          (if t3 = (61 : Int32) then
            (xX2_readTest_156 N c_X2_readCondition c_X2_readSum a2 a3 t3 h4)
          else
            (cl (xX7_refuse 1 (h4.1 1 2) h4) fun t5 h6 =>
            zok t5 (some (t5, h6))))))
    else
      (zok 0 (some (0, h2))))
  else
    (lt (up h 1 2 ((h.1 1 2) + 1)) fun h7 =>
    cl (c_X2_readCondition (a3 + 1) h7) fun t8 h9 =>
    if t8 = 0 then
      (xX2_readTest_106 N c_X2_readCondition c_X2_readSum h9)
    else
      (cl (xX7_demands 41 h9) fun t10 h11 =>
      if t10 ≠ 0 then
        (xX2_readTest_185 N c_X2_readCondition c_X2_readSum a2 a3 h11)
      else
        (xX2_readTest_106 N c_X2_readCondition c_X2_readSum h11)))
def xX2_readTest_33 (N : Nat) (c_X2_readCondition : Int32 → HP → Option (Int32 × HP)) (c_X2_readSum : Int32 → HP → Option (Int32 × HP)) (a2 : Int32) (a3 : Int32) (h : HP) : Option (Int32 × HP) :=
  cl (xX7_peek h) fun t1 h2 =>
  if a3 < (6 : Int32) then
    (xX2_readTest_69 N c_X2_readCondition c_X2_readSum a2 a3 t1 h2)
  else
    (if t1 = (33 : Int32) then
      (xX2_readTest_59 N c_X2_readCondition c_X2_readSum h2)
    else
      (if t1 ≠ (40 : Int32) then
        (xX2_readTest_69 N c_X2_readCondition c_X2_readSum a2 a3 t1 h2)
      else
        (xX2_readTest_59 N c_X2_readCondition c_X2_readSum h2)))
def xX2_readTest_2 (N : Nat) (c_X2_readCondition : Int32 → HP → Option (Int32 × HP)) (c_X2_readSum : Int32 → HP → Option (Int32 × HP)) : Nat → Int32 → Int32 → HP → Option (Int32 × HP)
  | 0 => fun _ _ _ => none
  | n + 1 => fun a2 a3 h =>
    if (6 : Int32) ≤ a3 then
      (xX2_readTest_33 N c_X2_readCondition c_X2_readSum a2 a3 h)
    else
      (cl (xX7_peek h) fun t1 h2 =>
      if t1 ≠ (33 : Int32) then
        (xX2_readTest_33 N c_X2_readCondition c_X2_readSum a2 a3 h2)
      else
        (lt (up h2 1 2 ((h2.1 1 2) + 1)) fun h3 =>
        lt (a3 + 1) fun v4 =>
        (xX2_readTest_2 N c_X2_readCondition c_X2_readSum n) a2 v4 h3))
def xX2_readTest (N : Nat) (c_X2_readCondition : Int32 → HP → Option (Int32 × HP)) (c_X2_readSum : Int32 → HP → Option (Int32 × HP)) (a2 : Int32) (h : HP) : Option (Int32 × HP) :=
  xX2_readTest_2 N c_X2_readCondition c_X2_readSum N a2 a2 h
def xX2_readSum_127 (N : Nat) (c_X2_readFactor : Int32 → HP → Option (Int32 × HP)) (K8 : Int32 → Int32 → Int32 → Int32 → HP → Option (Int32 × HP)) (a2 : Int32) (a3 : Int32) (a4 : Int32) (a5 : Int32) (h : HP) : Option (Int32 × HP) :=
  lt (a5 + 1) fun v1 =>
  K8 a2 a3 a4 v1 h
def xX2_readSum_70 (N : Nat) (c_X2_readFactor : Int32 → HP → Option (Int32 × HP)) (K8 : Int32 → Int32 → Int32 → Int32 → HP → Option (Int32 × HP)) (a2 : Int32) (a3 : Int32) (a5 : Int32) (a6 : Int32) (h : HP) : Option (Int32 × HP) :=
  lt (up h 1 2 ((h.1 1 2) + 1)) fun h1 =>
  xX2_readSum_127 N c_X2_readFactor K8 a2 a3 a6 a5 h1
def xX2_readSum_114 (N : Nat) (c_X2_readFactor : Int32 → HP → Option (Int32 × HP)) (K8 : Int32 → Int32 → Int32 → Int32 → HP → Option (Int32 × HP)) (a2 : Int32) (a4 : Int32) (a5 : Int32) (a6 : Int32) (h : HP) : Option (Int32 × HP) :=
  lt (up h 1 2 ((h.1 1 2) + 1)) fun h1 =>
  xX2_readSum_127 N c_X2_readFactor K8 a2 a6 a4 a5 h1
def xX2_readSum_98 (N : Nat) (c_X2_readFactor : Int32 → HP → Option (Int32 × HP)) (K8 : Int32 → Int32 → Int32 → Int32 → HP → Option (Int32 × HP)) (a2 : Int32) (a4 : Int32) (a5 : Int32) (a6 : Int32) (h : HP) : Option (Int32 × HP) :=
  if a6 = (43 : Int32) then
    (xX2_readSum_114 N c_X2_readFactor K8 a2 a4 a5 a6 h)
  else
    (if a6 = (45 : Int32) then
      (xX2_readSum_114 N c_X2_readFactor K8 a2 a4 a5 a6 h)
    else
      (zok 1 (some (1, h))))
def xX2_readSum_40 (N : Nat) (c_X2_readFactor : Int32 → HP → Option (Int32 × HP)) (K8 : Int32 → Int32 → Int32 → Int32 → HP → Option (Int32 × HP)) (a2 : Int32) (a3 : Int32) (a5 : Int32) (h : HP) : Option (Int32 × HP) :=
  cl (xX7_peek h) fun t1 h2 =>
  if t1 = (42 : Int32) then
    (xX2_readSum_70 N c_X2_readFactor K8 a2 a3 a5 t1 h2)
  else
    (if t1 = (47 : Int32) then
      (xX2_readSum_70 N c_X2_readFactor K8 a2 a3 a5 t1 h2)
    else
      (if t1 ≠ (37 : Int32) then
        (if a3 = 0 then
          (xX2_readSum_98 N c_X2_readFactor K8 a2 0 a5 t1 h2)
        else
          (cl (xX2_write a3 0 h2) fun t3 h4 =>
          xX2_readSum_98 N c_X2_readFactor K8 a2 0 a5 t1 h4))
      else
        (xX2_readSum_70 N c_X2_readFactor K8 a2 a3 a5 t1 h2)))
def xX2_readSum_8 (N : Nat) (c_X2_readFactor : Int32 → HP → Option (Int32 × HP)) : Nat → Int32 → Int32 → Int32 → Int32 → HP → Option (Int32 × HP)
  | 0 => fun _ _ _ _ _ => none
  | n + 1 => fun a2 a3 a4 a5 h =>
    if (240 : Int32) ≤ a5 then
      (zok 0 (some (0, h)))
    else
      (cl (c_X2_readFactor a2 h) fun t1 h2 =>
      if t1 ≠ 0 then
        (if a4 = 0 then
          (xX2_readSum_40 N c_X2_readFactor (xX2_readSum_8 N c_X2_readFactor n) a2 a3 a5 h2)
        else
          (cl (xX2_write a4 0 h2) fun t3 h4 =>
          xX2_readSum_40 N c_X2_readFactor (xX2_readSum_8 N c_X2_readFactor n) a2 a3 a5 h4))
      else
        (zok 0 (some (0, h2))))
def xX2_readSum (N : Nat) (c_X2_readFactor : Int32 → HP → Option (Int32 × HP)) (a2 : Int32) (h : HP) : Option (Int32 × HP) :=
  xX2_readSum_8 N c_X2_readFactor N a2 0 0 0 h
def xX2_readFactor_62 (N : Nat) (c_X2_readSum : Int32 → HP → Option (Int32 × HP)) (s0 : Int32) (h : HP) : Option (Int32 × HP) :=
  zok s0 (some (s0, h))
def xX2_readFactor_61 (N : Nat) (c_X2_readSum : Int32 → HP → Option (Int32 × HP)) (h : HP) : Option (Int32 × HP) :=
  xX2_readFactor_62 N c_X2_readSum 0 h
def xX2_readFactor_105 (N : Nat) (c_X2_readSum : Int32 → HP → Option (Int32 × HP)) (s0 : Int32) (h : HP) : Option (Int32 × HP) :=
  zok s0 (some (s0, h))
def xX2_readFactor_104 (N : Nat) (c_X2_readSum : Int32 → HP → Option (Int32 × HP)) (h : HP) : Option (Int32 × HP) :=
  xX2_readFactor_105 N c_X2_readSum 0 h
def xX2_readFactor_149 (N : Nat) (c_X2_readSum : Int32 → HP → Option (Int32 × HP)) (s0 : Int32) (h : HP) : Option (Int32 × HP) :=
  zok s0 (some (s0, h))
def xX2_readFactor_106 (N : Nat) (c_X2_readSum : Int32 → HP → Option (Int32 × HP)) (a3 : Int32) (h : HP) : Option (Int32 × HP) :=
  cl (xX2_isLetter N a3 h) fun t1 h2 =>
  if t1 ≠ 0 then
    (lt (up h2 1 2 ((h2.1 1 2) + 1)) fun h3 =>
    cl (xX2_write 97 a3 h3) fun t4 h5 =>
    if t4 = (-1 : Int32) then
      (xX2_readFactor_149 N c_X2_readSum 0 h5)
    else
      (xX2_readFactor_149 N c_X2_readSum 1 h5))
  else
    (cl (xX7_refuse 1 (h2.1 1 2) h2) fun t6 h7 =>
    zok t6 (some (t6, h7)))
def xX2_readFactor (N : Nat) (c_X2_readSum : Int32 → HP → Option (Int32 × HP)) (a2 : Int32) (h : HP) : Option (Int32 × HP) :=
  cl (xX7_peek h) fun t1 h2 =>
  if t1 ≠ (91 : Int32) then
    (if t1 < (48 : Int32) then
      (xX2_readFactor_106 N c_X2_readSum t1 h2)
    else
      (if (57 : Int32) < t1 then
        (xX2_readFactor_106 N c_X2_readSum t1 h2)
      else
        (cl (xX7_readNumber N 5 h2) fun t3 h4 =>
        if t3 = (-1 : Int32) then
          (xX2_readFactor_104 N c_X2_readSum h4)
        else
          (cl (xX2_write 48 t3 h4) fun t5 h6 =>
          if t5 = (-1 : Int32) then
            (xX2_readFactor_104 N c_X2_readSum h6)
          else
            (xX2_readFactor_105 N c_X2_readSum 1 h6)))))
  else
    (if a2 < (6 : Int32) then
      (lt (up h2 1 2 ((h2.1 1 2) + 1)) fun h7 =>
      cl (c_X2_readSum (a2 + 1) h7) fun t8 h9 =>
      if t8 = 0 then
        (xX2_readFactor_61 N c_X2_readSum h9)
      else
        (cl (xX7_demands 93 h9) fun t10 h11 =>
        if t10 = 0 then
          (xX2_readFactor_61 N c_X2_readSum h11)
        else
          (xX2_readFactor_62 N c_X2_readSum 1 h11)))
    else
      (cl (xX7_refuse 5 (h2.1 1 2) h2) fun t12 h13 =>
      zok t12 (some (t12, h13))))
def rg0 (N : Nat) : Nat → (Int32 → HP → Option (Int32 × HP)) × (Int32 → HP → Option (Int32 × HP)) × (Int32 → HP → Option (Int32 × HP)) × (Int32 → HP → Option (Int32 × HP))
  | 0 => (fun _ _ => none, fun _ _ => none, fun _ _ => none, fun _ _ => none)
  | dp + 1 => lt (rg0 N dp) fun p => (xX2_readCondition N p.2.1, xX2_readTest N p.1 p.2.2.1, xX2_readSum N p.2.2.2, xX2_readFactor N p.2.2.1)
def xr_X2_readCondition (N dp : Nat) (a2 : Int32) (h : HP) : Option (Int32 × HP) := (rg0 N dp).1 a2 h
def xr_X2_readTest (N dp : Nat) (a2 : Int32) (h : HP) : Option (Int32 × HP) := (rg0 N dp).2.1 a2 h
def xr_X2_readSum (N dp : Nat) (a2 : Int32) (h : HP) : Option (Int32 × HP) := (rg0 N dp).2.2.1 a2 h
def xr_X2_readFactor (N dp : Nat) (a2 : Int32) (h : HP) : Option (Int32 × HP) := (rg0 N dp).2.2.2 a2 h
def xX7_isAtEnd_16 (s0 : Int32) (h : HP) : Option (Int32 × HP) :=
  zok s0 (some (s0, h))
def xX7_isAtEnd (h : HP) : Option (Int32 × HP) :=
  if (h.1 1 2) < (h.1 1 3) then
    (xX7_isAtEnd_16 0 h)
  else
    (xX7_isAtEnd_16 1 h)
def xX2_readFrom_148 (N : Nat) (h : HP) : Option (Int32 × HP) :=
  zok 0 (some (0, h))
def xX2_readFrom_111 (N : Nat) (K12 : Int32 → HP → Option (Int32 × HP)) (a2 : Int32) (h : HP) : Option (Int32 × HP) :=
  ast h 25 16 a2 (h.1 20 6) fun h1 =>
  cl (xX7_demands 40 h1) fun t2 h3 =>
  if t2 = 0 then
    (xX2_readFrom_148 N h3)
  else
    (cl (xr_X2_readCondition N 60 1 h3) fun t4 h5 =>
    if t4 = 0 then
      (xX2_readFrom_148 N h5)
    else
      (cl (xX7_demands 41 h5) fun t6 h7 =>
      if t6 ≠ 0 then
        (ast h7 26 16 a2 (h7.1 20 6) fun h8 =>
        lt (up h8 20 7 (a2 + 1)) fun h9 =>
        cl (xX7_isAtEnd h9) fun t10 h11 =>
        if t10 = 0 then
          (cl (xX7_demands 59 h11) fun t12 h13 =>
          if t12 ≠ 0 then
            (lt (a2 + 1) fun v14 =>
            K12 v14 h13)
          else
            (zok 0 (some (0, h13))))
        else
          (zok 1 (some (1, h11))))
      else
        (xX2_readFrom_148 N h7)))
def xX2_readFrom_51 (N : Nat) (K12 : Int32 → HP → Option (Int32 × HP)) (a2 : Int32) (a3 : Int32) (h : HP) : Option (Int32 × HP) :=
  if a2 ≠ (16 : Int32) then
    (lt (up h 1 2 ((h.1 1 2) + 1)) fun h1 =>
    ast h1 23 16 a2 a3 fun h2 =>
    ast h2 24 16 a2 (h2.1 20 6) fun h3 =>
    if a3 = (120 : Int32) then
      (xX2_readFrom_111 N K12 a2 h3)
    else
      (cl (xr_X2_readSum N 60 0 h3) fun t4 h5 =>
      if t4 ≠ 0 then
        (xX2_readFrom_111 N K12 a2 h5)
      else
        (zok 0 (some (0, h5)))))
  else
    (cl (xX7_refuse 4 (h.1 1 2) h) fun t6 h7 =>
    zok t6 (some (t6, h7)))
def xX2_readFrom_12 (N : Nat) : Nat → Int32 → HP → Option (Int32 × HP)
  | 0 => fun _ _ => none
  | n + 1 => fun a2 h =>
    if (16 : Int32) < a2 then
      (zok 0 (some (0, h)))
    else
      (cl (xX7_peek h) fun t1 h2 =>
      if t1 = (114 : Int32) then
        (xX2_readFrom_51 N (xX2_readFrom_12 N n) a2 t1 h2)
      else
        (if t1 = (111 : Int32) then
          (xX2_readFrom_51 N (xX2_readFrom_12 N n) a2 t1 h2)
        else
          (if t1 = (120 : Int32) then
            (xX2_readFrom_51 N (xX2_readFrom_12 N n) a2 t1 h2)
          else
            (cl (xX7_refuse 1 (h2.1 1 2) h2) fun t3 h4 =>
            zok t3 (some (t3, h4))))))
def xX2_readFrom (N : Nat) (h : HP) : Option (Int32 × HP) :=
  lt (up h 20 6 0) fun h1 =>
  lt (up h1 20 7 0) fun h2 =>
  xX2_readFrom_12 N N 0 h2
def xX3_look_93 (N : Nat) (K15 : Int32 → HP → Option (Int32 × HP)) (a2 : Int32) (h : HP) : Option (Int32 × HP) :=
  lt (a2 + 1) fun v1 =>
  K15 v1 h
def xX3_look_15 (N : Nat) : Nat → Int32 → HP → Option (Int32 × HP)
  | 0 => fun _ _ => none
  | n + 1 => fun a2 h =>
    if (h.1 3 5) ≤ a2 then
      (some (0, h))
    else
      (cl (xX10_hasBit (h.1 45 4) a2 h) fun t1 h2 =>
      if t1 = 0 then
        (xX3_look_93 N (xX3_look_15 N n) a2 h2)
      else
        (ald h2 5 24 a2 fun t3 =>
        ald h2 46 16 t3 fun t4 =>
        ald h2 6 24 a2 fun t5 =>
        ast h2 46 16 t3 (t4 ||| (1 <<< (t5 &&& 31))) fun h6 =>
        ald h6 6 24 a2 fun t7 =>
        ald h6 46 16 t7 fun t8 =>
        ald h6 5 24 a2 fun t9 =>
        ast h6 46 16 t7 (t8 ||| (1 <<< (t9 &&& 31))) fun h10 =>
        xX3_look_93 N (xX3_look_15 N n) a2 h10))
def xX3_look (N : Nat) (a1 : Int32) (h : HP) : Option (Int32 × HP) :=
  lt (up h 45 4 a1) fun h1 =>
  cl (xJ7_fill_53178 N 16 46 0 h1) fun t2 h3 =>
  xX3_look_15 N N 0 h3
def xJ6_bitCount_0f7a4 (a0 : Int32) (h : HP) : Option (Int32 × HP) :=
  lt (a0 - ((ushr a0 1) &&& 1431655765)) fun v1 =>
  lt ((v1 &&& 858993459) + ((ushr v1 2) &&& 858993459)) fun v2 =>
  lt ((v2 + (ushr v2 4)) &&& 252645135) fun v3 =>
  lt (v3 + (ushr v3 8)) fun v4 =>
  lt (v4 + (ushr v4 16)) fun v5 =>
  some (v5 &&& 63, h)
def xX10_lowest (a0 : Int32) (h : HP) : Option (Int32 × HP) :=
  cl (xJ6_bitCount_0f7a4 ((a0 &&& (-a0)) - 1) h) fun t1 h2 =>
  some (t1, h2)
def xX3_nearTo_42 (N : Nat) (a2 : Int32) (h : HP) : Option (Int32 × HP) :=
  some (a2, h)
def xX3_nearTo_7 (N : Nat) : Nat → Int32 → Int32 → Int32 → HP → Option (Int32 × HP)
  | 0 => fun _ _ _ _ => none
  | n + 1 => fun a2 a3 a4 h =>
    if (16 : Int32) ≤ a4 then
      (xX3_nearTo_42 N a2 h)
    else
      (if a3 = 0 then
        (xX3_nearTo_42 N a2 h)
      else
        (cl (xX10_lowest a3 h) fun t1 h2 =>
        ald h2 46 16 t1 fun t3 =>
        lt (a2 ||| t3) fun v4 =>
        lt (a3 &&& (a3 - 1)) fun v5 =>
        lt (a4 + 1) fun v6 =>
        (xX3_nearTo_7 N n) v4 v5 v6 h2))
def xX3_nearTo (N : Nat) (a1 : Int32) (h : HP) : Option (Int32 × HP) :=
  xX3_nearTo_7 N N 0 a1 0 h
def xX3_measureFrom_57 (N : Nat) (K32 : Int32 → Int32 → Int32 → Int32 → HP → Option (Int32 × HP)) (a2 : Int32) (a3 : Int32) (a4 : Int32) (a5 : Int32) (h : HP) : Option (Int32 × HP) :=
  lt (a5 + 1) fun v1 =>
  K32 a2 a3 a4 v1 h
def xX3_measureFrom_32 (N : Nat) (K18 : Int32 → Int32 → Int32 → HP → Option (Int32 × HP)) : Nat → Int32 → Int32 → Int32 → Int32 → HP → Option (Int32 × HP)
  | 0 => fun _ _ _ _ _ => none
  | n + 1 => fun a2 a3 a4 a5 h =>
    if (16 : Int32) ≤ a5 then
      (cl (xX3_nearTo N a3 h) fun t1 h2 =>
      lt (t1 &&& (a2 ^^^ (-1))) fun v3 =>
      lt (a2 ||| v3) fun v4 =>
      lt (a4 + 1) fun v5 =>
      K18 v4 v3 v5 h2)
    else
      (cl (xX10_hasBit a3 a5 h) fun t6 h7 =>
      if t6 = 0 then
        (xX3_measureFrom_57 N (xX3_measureFrom_32 N K18 n) a2 a3 a4 a5 h7)
      else
        (ast h7 47 16 a5 a4 fun h8 =>
        xX3_measureFrom_57 N (xX3_measureFrom_32 N K18 n) a2 a3 a4 a5 h8))
def xX3_measureFrom_83 (N : Nat) (a2 : Int32) (h : HP) : Option (Int32 × HP) :=
  some (a2, h)
def xX3_measureFrom_18 (N : Nat) : Nat → Int32 → Int32 → Int32 → HP → Option (Int32 × HP)
  | 0 => fun _ _ _ _ => none
  | n + 1 => fun a2 a3 a4 h =>
    if (16 : Int32) ≤ a4 then
      (xX3_measureFrom_83 N a2 h)
    else
      (if a3 = 0 then
        (xX3_measureFrom_83 N a2 h)
      else
        (xX3_measureFrom_32 N (xX3_measureFrom_18 N n) N a2 a3 a4 0 h))
def xX3_measureFrom (N : Nat) (a1 : Int32) (h : HP) : Option (Int32 × HP) :=
  cl (xJ7_fill_53178 N 16 47 (-2) h) fun t1 h2 =>
  lt (1 <<< (a1 &&& 31)) fun v3 =>
  xX3_measureFrom_18 N N v3 v3 0 h2
def xX3_stepsBetween (N : Nat) (a1 : Int32) (a2 : Int32) (h : HP) : Option (Int32 × HP) :=
  cl (xX3_measureFrom N a1 h) fun t1 h2 =>
  ald h2 47 16 a2 fun t3 =>
  some (t3, h2)
def xX3_widestWay_150 (N : Nat) (K28 : Int32 → Int32 → Int32 → HP → Option (Int32 × HP)) (a2 : Int32) (a3 : Int32) (a4 : Int32) (h : HP) : Option (Int32 × HP) :=
  lt (a4 + 1) fun v1 =>
  K28 a2 a3 v1 h
def xX3_widestWay_28 (N : Nat) (K19 : Int32 → Int32 → HP → Option (Int32 × HP)) : Nat → Int32 → Int32 → Int32 → HP → Option (Int32 × HP)
  | 0 => fun _ _ _ _ => none
  | n + 1 => fun a2 a3 a4 h =>
    if (h.1 3 5) ≤ a4 then
      (lt (a3 + 1) fun v1 =>
      K19 a2 v1 h)
    else
      (cl (xX10_hasBit (h.1 45 4) a4 h) fun t2 h3 =>
      if t2 = 0 then
        (xX3_widestWay_150 N (xX3_widestWay_28 N K19 n) a2 a3 a4 h3)
      else
        (ald h3 5 24 a4 fun t4 =>
        ald h3 6 24 a4 fun t5 =>
        ald h3 48 16 t5 fun t6 =>
        ald h3 48 16 t4 fun t7 =>
        ald h3 7 24 a4 fun t8 =>
        ast h3 48 16 t5 (imx t6 (imn t7 t8)) fun h9 =>
        ald h9 48 16 t4 fun t10 =>
        ald h9 48 16 t5 fun t11 =>
        ald h9 7 24 a4 fun t12 =>
        ast h9 48 16 t4 (imx t10 (imn t11 t12)) fun h13 =>
        xX3_widestWay_150 N (xX3_widestWay_28 N K19 n) a2 a3 a4 h13))
def xX3_widestWay_19 (N : Nat) : Nat → Int32 → Int32 → HP → Option (Int32 × HP)
  | 0 => fun _ _ _ => none
  | n + 1 => fun a2 a3 h =>
    if (16 : Int32) ≤ a3 then
      (ald h 48 16 a2 fun t1 =>
      some (t1, h))
    else
      (xX3_widestWay_28 N (xX3_widestWay_19 N n) N a2 a3 0 h)
def xX3_widestWay (N : Nat) (a1 : Int32) (a2 : Int32) (h : HP) : Option (Int32 × HP) :=
  cl (xJ7_fill_53178 N 16 48 (-2) h) fun t1 h2 =>
  ast h2 48 16 a1 99 fun h3 =>
  xX3_widestWay_19 N N a2 1 h3
def xX3_groups_51 (N : Nat) (a2 : Int32) (h : HP) : Option (Int32 × HP) :=
  some (a2, h)
def xX3_groups_18 (N : Nat) : Nat → Int32 → Int32 → Int32 → HP → Option (Int32 × HP)
  | 0 => fun _ _ _ _ => none
  | n + 1 => fun a2 a3 a4 h =>
    if (16 : Int32) ≤ a4 then
      (xX3_groups_51 N a2 h)
    else
      (if a3 = 0 then
        (xX3_groups_51 N a2 h)
      else
        (cl (xX10_lowest a3 h) fun t1 h2 =>
        cl (xX3_measureFrom N t1 h2) fun t3 h4 =>
        lt (a3 &&& (t3 ^^^ (-1))) fun v5 =>
        lt (a2 + 1) fun v6 =>
        lt (a4 + 1) fun v7 =>
        (xX3_groups_18 N n) v6 v5 v7 h4))
def xX3_groups (N : Nat) (a1 : Int32) (h : HP) : Option (Int32 × HP) :=
  cl (xX3_look N a1 h) fun t1 h2 =>
  lt (h2.1 3 4) fun v3 =>
  xX3_groups_18 N N 0 v3 0 h2
def xX3_bridgeBits_67 (N : Nat) (K4 : Int32 → Int32 → Int32 → HP → Option (Int32 × HP)) (a1 : Int32) (a2 : Int32) (a3 : Int32) (h : HP) : Option (Int32 × HP) :=
  lt (a3 + 1) fun v1 =>
  K4 a1 a2 v1 h
def xX3_bridgeBits_4 (N : Nat) : Nat → Int32 → Int32 → Int32 → HP → Option (Int32 × HP)
  | 0 => fun _ _ _ _ => none
  | n + 1 => fun a1 a2 a3 h =>
    if (h.1 3 5) ≤ a3 then
      (some (a2, h))
    else
      (cl (xX10_hasBit a1 a3 h) fun t1 h2 =>
      if t1 = 0 then
        (xX3_bridgeBits_67 N (xX3_bridgeBits_4 N n) a1 a2 a3 h2)
      else
        (cl (xX3_look N (a1 &&& ((1 <<< (a3 &&& 31)) ^^^ (-1))) h2) fun t3 h4 =>
        ald h4 5 24 a3 fun t5 =>
        ald h4 6 24 a3 fun t6 =>
        cl (xX3_stepsBetween N t5 t6 h4) fun t7 h8 =>
        if t7 ≠ (-2 : Int32) then
          (xX3_bridgeBits_67 N (xX3_bridgeBits_4 N n) a1 a2 a3 h8)
        else
          (lt (a2 ||| (1 <<< (a3 &&& 31))) fun v9 =>
          xX3_bridgeBits_67 N (xX3_bridgeBits_4 N n) a1 v9 a3 h8)))
def xX3_bridgeBits (N : Nat) (a1 : Int32) (h : HP) : Option (Int32 × HP) :=
  xX3_bridgeBits_4 N N a1 0 0 h
def xX6_across_37 (s0 : Int32) (h : HP) : Option (Int32 × HP) :=
  some (s0, h)
def xX6_across (a1 : Int32) (a2 : Int32) (h : HP) : Option (Int32 × HP) :=
  ald h 5 24 a1 fun t1 =>
  if t1 ≠ a2 then
    (ald h 6 24 a1 fun t2 =>
    if t2 ≠ a2 then
      (xX6_across_37 (-1) h)
    else
      (ald h 5 24 a1 fun t3 =>
      xX6_across_37 t3 h))
  else
    (ald h 6 24 a1 fun t4 =>
    some (t4, h))
def xX3_leastRing_95 (N : Nat) (K6 : Int32 → Int32 → Int32 → Int32 → HP → Option (Int32 × HP)) (a1 : Int32) (a2 : Int32) (a3 : Int32) (a4 : Int32) (h : HP) : Option (Int32 × HP) :=
  lt (a4 + 1) fun v1 =>
  K6 a1 a2 a3 v1 h
def xX3_leastRing_90 (N : Nat) (K6 : Int32 → Int32 → Int32 → Int32 → HP → Option (Int32 × HP)) (a1 : Int32) (a2 : Int32) (a4 : Int32) (a6 : Int32) (h : HP) : Option (Int32 × HP) :=
  lt (a6 + 1) fun v1 =>
  xX3_leastRing_95 N K6 a1 a2 v1 a4 h
def xX3_leastRing_6 (N : Nat) : Nat → Int32 → Int32 → Int32 → Int32 → HP → Option (Int32 × HP)
  | 0 => fun _ _ _ _ _ => none
  | n + 1 => fun a1 a2 a3 a4 h =>
    if (h.1 3 5) ≤ a4 then
      (some (a3, h))
    else
      (cl (xX6_across a4 a1 h) fun t1 h2 =>
      cl (xX10_hasBit a2 a4 h2) fun t3 h4 =>
      if t3 = 0 then
        (xX3_leastRing_95 N (xX3_leastRing_6 N n) a1 a2 a3 a4 h4)
      else
        (if t1 ≠ (-1 : Int32) then
          (cl (xX3_look N (a2 &&& ((1 <<< (a4 &&& 31)) ^^^ (-1))) h4) fun t5 h6 =>
          cl (xX3_stepsBetween N t1 a1 h6) fun t7 h8 =>
          if t7 = (-2 : Int32) then
            (xX3_leastRing_95 N (xX3_leastRing_6 N n) a1 a2 a3 a4 h8)
          else
            (if a3 = (-2 : Int32) then
              (xX3_leastRing_90 N (xX3_leastRing_6 N n) a1 a2 a4 t7 h8)
            else
              (if a3 ≤ (t7 + 1) then
                (xX3_leastRing_95 N (xX3_leastRing_6 N n) a1 a2 a3 a4 h8)
              else
                (xX3_leastRing_90 N (xX3_leastRing_6 N n) a1 a2 a4 t7 h8))))
        else
          (xX3_leastRing_95 N (xX3_leastRing_6 N n) a1 a2 a3 a4 h4)))
def xX3_leastRing (N : Nat) (a1 : Int32) (a2 : Int32) (h : HP) : Option (Int32 × HP) :=
  xX3_leastRing_6 N N a1 a2 (-2) 0 h
def xX6_isTold_26 (s0 : Int32) (h : HP) : Option (Int32 × HP) :=
  zok s0 (some (s0, h))
def xX6_isTold_25 (h : HP) : Option (Int32 × HP) :=
  xX6_isTold_26 0 h
def xX6_isTold (a1 : Int32) (h : HP) : Option (Int32 × HP) :=
  if a1 < 0 then
    (xX6_isTold_25 h)
  else
    (if (16 : Int32) ≤ a1 then
      (xX6_isTold_25 h)
    else
      (cl (xX10_hasBit (h.1 3 4) a1 h) fun t1 h2 =>
      if t1 = 0 then
        (xX6_isTold_25 h2)
      else
        (xX6_isTold_26 1 h2)))
def xX3_farthestPair_96 (N : Nat) (K57 : Int32 → Int32 → Int32 → Int32 → HP → Option (Int32 × HP)) (a2 : Int32) (a3 : Int32) (a4 : Int32) (a5 : Int32) (h : HP) : Option (Int32 × HP) :=
  lt (a5 + 1) fun v1 =>
  K57 a2 a3 a4 v1 h
def xX3_farthestPair_102 (N : Nat) (K22 : Int32 → Int32 → Int32 → HP → Option (Int32 × HP)) (a2 : Int32) (a3 : Int32) (a4 : Int32) (h : HP) : Option (Int32 × HP) :=
  lt (a4 + 1) fun v1 =>
  K22 a2 a3 v1 h
def xX3_farthestPair_57 (N : Nat) (K22 : Int32 → Int32 → Int32 → HP → Option (Int32 × HP)) : Nat → Int32 → Int32 → Int32 → Int32 → HP → Option (Int32 × HP)
  | 0 => fun _ _ _ _ _ => none
  | n + 1 => fun a2 a3 a4 a5 h =>
    if (16 : Int32) ≤ a5 then
      (xX3_farthestPair_102 N K22 a2 a3 a4 h)
    else
      (ald h 47 16 a5 fun t1 =>
      if t1 ≤ a2 then
        (xX3_farthestPair_96 N (xX3_farthestPair_57 N K22 n) a2 a3 a4 a5 h)
      else
        (ald h 47 16 a5 fun t2 =>
        lt (((t2 <<< (8 &&& 31)) ||| (a4 <<< (4 &&& 31))) ||| a5) fun v3 =>
        xX3_farthestPair_96 N (xX3_farthestPair_57 N K22 n) t2 v3 a4 a5 h))
def xX3_farthestPair_22 (N : Nat) : Nat → Int32 → Int32 → Int32 → HP → Option (Int32 × HP)
  | 0 => fun _ _ _ _ => none
  | n + 1 => fun a2 a3 a4 h =>
    if (16 : Int32) ≤ a4 then
      (some (a3, h))
    else
      (cl (xX6_isTold a4 h) fun t1 h2 =>
      if t1 ≠ 0 then
        (cl (xX3_measureFrom N a4 h2) fun t3 h4 =>
        lt (a4 + 1) fun v5 =>
        xX3_farthestPair_57 N (xX3_farthestPair_22 N n) N a2 a3 a4 v5 h4)
      else
        (xX3_farthestPair_102 N (xX3_farthestPair_22 N n) a2 a3 a4 h2))
def xX3_farthestPair (N : Nat) (h : HP) : Option (Int32 × HP) :=
  cl (xX10_lowest (h.1 3 4) h) fun t1 h2 =>
  lt ((t1 <<< (4 &&& 31)) ||| t1) fun v3 =>
  xX3_farthestPair_22 N N 0 v3 t1 h2
def xX3_widestBetweenGroups_94 (N : Nat) (K4 : Int32 → Int32 → Int32 → HP → Option (Int32 × HP)) (a1 : Int32) (a2 : Int32) (a3 : Int32) (h : HP) : Option (Int32 × HP) :=
  lt (a3 + 1) fun v1 =>
  K4 a1 a2 v1 h
def xX3_widestBetweenGroups_92 (N : Nat) (K4 : Int32 → Int32 → Int32 → HP → Option (Int32 × HP)) (a1 : Int32) (a3 : Int32) (h : HP) : Option (Int32 × HP) :=
  xX3_widestBetweenGroups_94 N K4 a1 a3 a3 h
def xX3_widestBetweenGroups_51 (N : Nat) (K4 : Int32 → Int32 → Int32 → HP → Option (Int32 × HP)) (a1 : Int32) (a2 : Int32) (a3 : Int32) (s0 : Int32) (h : HP) : Option (Int32 × HP) :=
  cl (xX10_hasBit a1 a3 h) fun t1 h2 =>
  if t1 = 0 then
    (xX3_widestBetweenGroups_94 N K4 a1 a2 a3 h2)
  else
    (if s0 = 0 then
      (xX3_widestBetweenGroups_94 N K4 a1 a2 a3 h2)
    else
      (if a2 = (-1 : Int32) then
        (xX3_widestBetweenGroups_92 N K4 a1 a3 h2)
      else
        (ald h2 7 24 a3 fun t3 =>
        ald h2 7 24 a2 fun t4 =>
        if t3 ≤ t4 then
          (xX3_widestBetweenGroups_94 N K4 a1 a2 a3 h2)
        else
          (xX3_widestBetweenGroups_92 N K4 a1 a3 h2))))
def xX3_widestBetweenGroups_4 (N : Nat) : Nat → Int32 → Int32 → Int32 → HP → Option (Int32 × HP)
  | 0 => fun _ _ _ _ => none
  | n + 1 => fun a1 a2 a3 h =>
    if (h.1 3 5) ≤ a3 then
      (some (a2, h))
    else
      (ald h 5 24 a3 fun t1 =>
      ald h 48 16 t1 fun t2 =>
      ald h 6 24 a3 fun t3 =>
      ald h 48 16 t3 fun t4 =>
      if t2 = t4 then
        (xX3_widestBetweenGroups_51 N (xX3_widestBetweenGroups_4 N n) a1 a2 a3 0 h)
      else
        (xX3_widestBetweenGroups_51 N (xX3_widestBetweenGroups_4 N n) a1 a2 a3 1 h))
def xX3_widestBetweenGroups (N : Nat) (a1 : Int32) (h : HP) : Option (Int32 × HP) :=
  xX3_widestBetweenGroups_4 N N a1 (-1) 0 h
def xX3_joinGroups_25 (N : Nat) (K2 : Int32 → Int32 → Int32 → HP → Option (Int32 × HP)) (a1 : Int32) (a2 : Int32) (a3 : Int32) (h : HP) : Option (Int32 × HP) :=
  lt (a3 + 1) fun v1 =>
  K2 a1 a2 v1 h
def xX3_joinGroups_2 (N : Nat) : Nat → Int32 → Int32 → Int32 → HP → Option (Int32 × HP)
  | 0 => fun _ _ _ _ => none
  | n + 1 => fun a1 a2 a3 h =>
    if (16 : Int32) ≤ a3 then
      (some (0, h))
    else
      (ald h 48 16 a3 fun t1 =>
      if t1 ≠ a2 then
        (xX3_joinGroups_25 N (xX3_joinGroups_2 N n) a1 a2 a3 h)
      else
        (ast h 48 16 a3 a1 fun h2 =>
        xX3_joinGroups_25 N (xX3_joinGroups_2 N n) a1 a2 a3 h2))
def xX3_joinGroups (N : Nat) (a1 : Int32) (a2 : Int32) (h : HP) : Option (Int32 × HP) :=
  xX3_joinGroups_2 N N a1 a2 0 h
def xX3_widthToHold_25 (N : Nat) : Nat → Int32 → Int32 → Int32 → HP → Option (Int32 × HP)
  | 0 => fun _ _ _ _ => none
  | n + 1 => fun a1 a2 a3 h =>
    if (16 : Int32) ≤ a3 then
      (some (a2, h))
    else
      (cl (xX3_widestBetweenGroups N a1 h) fun t1 h2 =>
      if t1 ≠ (-1 : Int32) then
        (ald h2 7 24 t1 fun t3 =>
        lt (a2 + t3) fun v4 =>
        ald h2 5 24 t1 fun t5 =>
        ald h2 48 16 t5 fun t6 =>
        ald h2 6 24 t1 fun t7 =>
        ald h2 48 16 t7 fun t8 =>
        cl (xX3_joinGroups N t6 t8 h2) fun t9 h10 =>
        lt (a3 + 1) fun v11 =>
        (xX3_widthToHold_25 N n) a1 v4 v11 h10)
      else
        (some (a2, h2)))
def xX3_widthToHold_2 (N : Nat) : Nat → Int32 → Int32 → HP → Option (Int32 × HP)
  | 0 => fun _ _ _ => none
  | n + 1 => fun a1 a2 h =>
    if (16 : Int32) ≤ a2 then
      (xX3_widthToHold_25 N N a1 0 1 h)
    else
      (ast h 48 16 a2 a2 fun h1 =>
      lt (a2 + 1) fun v2 =>
      (xX3_widthToHold_2 N n) a1 v2 h1)
def xX3_widthToHold (N : Nat) (a1 : Int32) (h : HP) : Option (Int32 × HP) :=
  xX3_widthToHold_2 N N a1 0 h
def xX3_doesCover_57 (N : Nat) (s0 : Int32) (h : HP) : Option (Int32 × HP) :=
  zok s0 (some (s0, h))
def xX3_doesCover_41 (N : Nat) (a2 : Int32) (h : HP) : Option (Int32 × HP) :=
  if a2 ≠ (h.1 3 4) then
    (xX3_doesCover_57 N 0 h)
  else
    (xX3_doesCover_57 N 1 h)
def xX3_doesCover_7 (N : Nat) : Nat → Int32 → Int32 → Int32 → HP → Option (Int32 × HP)
  | 0 => fun _ _ _ _ => none
  | n + 1 => fun a2 a3 a4 h =>
    if (5 : Int32) ≤ a4 then
      (xX3_doesCover_41 N a2 h)
    else
      (if a3 = 0 then
        (xX3_doesCover_41 N a2 h)
      else
        (cl (xX10_lowest a3 h) fun t1 h2 =>
        ald h2 48 16 t1 fun t3 =>
        lt (a2 ||| t3) fun v4 =>
        lt (a3 &&& (a3 - 1)) fun v5 =>
        lt (a4 + 1) fun v6 =>
        (xX3_doesCover_7 N n) v4 v5 v6 h2))
def xX3_doesCover (N : Nat) (a1 : Int32) (h : HP) : Option (Int32 × HP) :=
  xX3_doesCover_7 N N 0 a1 0 h
def xX3_nextOfAsMany_27 (s0 : Int32) (h : HP) : Option (Int32 × HP) :=
  some (s0, h)
def xX3_nextOfAsMany (a0 : Int32) (h : HP) : Option (Int32 × HP) :=
  lt (a0 &&& (-a0)) fun v1 =>
  lt (a0 + v1) fun v2 =>
  if v1 ≠ 0 then
    (dvd (a0 ^^^ v2) v1 fun t3 =>
    xX3_nextOfAsMany_27 (v2 ||| (t3 >>> (2 &&& 31))) h)
  else
    (xX3_nextOfAsMany_27 65536 h)
def xX3_leastCover_44 (N : Nat) (K8 : Int32 → Int32 → HP → Option (Int32 × HP)) (a2 : Int32) (a3 : Int32) (h : HP) : Option (Int32 × HP) :=
  cl (xX3_nextOfAsMany a2 h) fun t1 h2 =>
  lt (a3 + 1) fun v3 =>
  K8 t1 v3 h2
def xX3_leastCover_55 (N : Nat) (h : HP) : Option (Int32 × HP) :=
  some (0, h)
def xX3_leastCover_8 (N : Nat) : Nat → Int32 → Int32 → HP → Option (Int32 × HP)
  | 0 => fun _ _ _ => none
  | n + 1 => fun a2 a3 h =>
    if (65536 : Int32) ≤ a3 then
      (xX3_leastCover_55 N h)
    else
      (if (65536 : Int32) ≤ a2 then
        (xX3_leastCover_55 N h)
      else
        (if (a2 &&& ((h.1 3 4) ^^^ (-1))) ≠ 0 then
          (xX3_leastCover_44 N (xX3_leastCover_8 N n) a2 a3 h)
        else
          (cl (xX3_doesCover N a2 h) fun t1 h2 =>
          if t1 = 0 then
            (xX3_leastCover_44 N (xX3_leastCover_8 N n) a2 a3 h2)
          else
            (some (a2, h2)))))
def xX3_leastCover (N : Nat) (a1 : Int32) (h : HP) : Option (Int32 × HP) :=
  lt ((1 <<< (a1 &&& 31)) - 1) fun v1 =>
  xX3_leastCover_8 N N v1 0 h
def xX3_bestStand_26 (N : Nat) (h : HP) : Option (Int32 × HP) :=
  some ((-2), h)
def xX3_bestStand_80 (N : Nat) (K54 : Int32 → Int32 → HP → Option (Int32 × HP)) : Nat → Int32 → Int32 → Int32 → HP → Option (Int32 × HP)
  | 0 => fun _ _ _ _ => none
  | n + 1 => fun a1 a2 a4 h =>
    if (16 : Int32) ≤ a4 then
      (lt (a2 + 1) fun v1 =>
      K54 a1 v1 h)
    else
      (ald h 48 16 a4 fun t2 =>
      ald h 48 16 a4 fun t3 =>
      cl (xX3_nearTo N t3 h) fun t4 h5 =>
      ast h5 48 16 a4 (t2 ||| t4) fun h6 =>
      lt (a4 + 1) fun v7 =>
      (xX3_bestStand_80 N K54 n) a1 a2 v7 h6)
def xX3_bestStand_54 (N : Nat) : Nat → Int32 → Int32 → HP → Option (Int32 × HP)
  | 0 => fun _ _ _ => none
  | n + 1 => fun a1 a2 h =>
    if (16 : Int32) ≤ a2 then
      (some ((-2), h))
    else
      (cl (xX3_leastCover N a1 h) fun t1 h2 =>
      if t1 = 0 then
        (xX3_bestStand_80 N (xX3_bestStand_54 N n) N a1 a2 0 h2)
      else
        (some ((a2 <<< (16 &&& 31)) ||| t1, h2)))
def xX3_bestStand_31 (N : Nat) : Nat → Int32 → Int32 → HP → Option (Int32 × HP)
  | 0 => fun _ _ _ => none
  | n + 1 => fun a1 a2 h =>
    if (16 : Int32) ≤ a2 then
      (xX3_bestStand_54 N N a1 0 h)
    else
      (ast h 48 16 a2 (1 <<< (a2 &&& 31)) fun h1 =>
      lt (a2 + 1) fun v2 =>
      (xX3_bestStand_31 N n) a1 v2 h1)
def xX3_bestStand (N : Nat) (a1 : Int32) (h : HP) : Option (Int32 × HP) :=
  cl (xJ6_bitCount_0f7a4 (h.1 3 4) h) fun t1 h2 =>
  if t1 < a1 then
    (xX3_bestStand_26 N h2)
  else
    (cl (xX3_groups N (h2.1 45 4) h2) fun t3 h4 =>
    if t3 ≤ a1 then
      (xX3_bestStand_31 N N a1 0 h4)
    else
      (xX3_bestStand_26 N h4))
def xX7_isAtCorner_22 (s0 : Int32) (h : HP) : Option (Int32 × HP) :=
  zok s0 (some (s0, h))
def xX7_isAtCorner_21 (h : HP) : Option (Int32 × HP) :=
  xX7_isAtCorner_22 0 h
def xX7_isAtCorner (h : HP) : Option (Int32 × HP) :=
  cl (xX7_peek h) fun t1 h2 =>
  if t1 < (97 : Int32) then
    (xX7_isAtCorner_21 h2)
  else
    (if (113 : Int32) ≤ t1 then
      (xX7_isAtCorner_21 h2)
    else
      (xX7_isAtCorner_22 1 h2))
def xX4_note (a1 : Int32) (a2 : Int32) (a3 : Int32) (h : HP) : Option (Int32 × HP) :=
  if (h.1 27 3) < (20 : Int32) then
    (ast h 28 20 (h.1 27 3) a1 fun h1 =>
    ast h1 29 20 (h1.1 27 3) a2 fun h2 =>
    ast h2 30 20 (h2.1 27 3) a3 fun h3 =>
    lt (up h3 27 3 ((h3.1 27 3) + 1)) fun h4 =>
    zok 1 (some (1, h4)))
  else
    (zok 0 (some (0, h)))
def xX4_readPipe_82 (N : Nat) (s0 : Int32) (h : HP) : Option (Int32 × HP) :=
  zok s0 (some (s0, h))
def xX4_readPipe_81 (N : Nat) (h : HP) : Option (Int32 × HP) :=
  xX4_readPipe_82 N 0 h
def xX4_readPipe (N : Nat) (h : HP) : Option (Int32 × HP) :=
  lt (h.1 1 2) fun v1 =>
  cl (xX7_readNumber N 2 h) fun t2 h3 =>
  if t2 ≠ (-1 : Int32) then
    (if t2 < (h3.1 3 5) then
      (cl (xX7_takes 33 h3) fun t4 h5 =>
      if t4 = 0 then
        (cl (xX7_demands 63 h5) fun t6 h7 =>
        if t6 = 0 then
          (xX4_readPipe_81 N h7)
        else
          (cl (xX4_note 63 t2 0 h7) fun t8 h9 =>
          if t8 = 0 then
            (xX4_readPipe_81 N h9)
          else
            (xX4_readPipe_82 N 1 h9)))
      else
        (cl (xX4_note 33 t2 0 h5) fun t10 h11 =>
        zok t10 (some (t10, h11))))
    else
      (cl (xX7_refuse 7 v1 h3) fun t12 h13 =>
      zok t12 (some (t12, h13))))
  else
    (zok 0 (some (0, h3)))
def xX4_readAmount_30 (N : Nat) (s0 : Int32) (h : HP) : Option (Int32 × HP) :=
  zok s0 (some (s0, h))
def xX4_readAmount_29 (N : Nat) (h : HP) : Option (Int32 × HP) :=
  xX4_readAmount_30 N 0 h
def xX4_readAmount (N : Nat) (a2 : Int32) (a3 : Int32) (a4 : Int32) (h : HP) : Option (Int32 × HP) :=
  cl (xX7_readNumber N a4 h) fun t1 h2 =>
  if t1 = (-1 : Int32) then
    (xX4_readAmount_29 N h2)
  else
    (cl (xX4_note a2 a3 t1 h2) fun t3 h4 =>
    if t3 = 0 then
      (xX4_readAmount_29 N h4)
    else
      (xX4_readAmount_30 N 1 h4))
def xX4_readTurn_18 (h : HP) : Option (Int32 × HP) :=
  cl (xX7_refuse 1 (h.1 1 2) h) fun t1 h2 =>
  zok t1 (some (t1, h2))
def xX4_readTurn (a2 : Int32) (h : HP) : Option (Int32 × HP) :=
  cl (xX7_peek h) fun t1 h2 =>
  lt (t1 - 48) fun v3 =>
  if v3 < 0 then
    (xX4_readTurn_18 h2)
  else
    (if v3 ≤ (8 : Int32) then
      (lt (up h2 1 2 ((h2.1 1 2) + 1)) fun h4 =>
      cl (xX4_note 64 a2 v3 h4) fun t5 h6 =>
      zok t5 (some (t5, h6)))
    else
      (xX4_readTurn_18 h2))
def xX4_readLine_134 (N : Nat) (s0 : Int32) (h : HP) : Option (Int32 × HP) :=
  zok s0 (some (s0, h))
def xX4_readLine_133 (N : Nat) (h : HP) : Option (Int32 × HP) :=
  xX4_readLine_134 N 0 h
def xX4_readLine (N : Nat) (h : HP) : Option (Int32 × HP) :=
  cl (xX7_takes 35 h) fun t1 h2 =>
  if t1 = 0 then
    (cl (xX7_takes 126 h2) fun t3 h4 =>
    if t3 = 0 then
      (cl (xX7_peek h4) fun t5 h6 =>
      lt (t5 - 97) fun v7 =>
      cl (xX6_isTold v7 h6) fun t8 h9 =>
      if t8 ≠ 0 then
        (lt (up h9 1 2 ((h9.1 1 2) + 1)) fun h10 =>
        cl (xX7_takes 64 h10) fun t11 h12 =>
        if t11 = 0 then
          (cl (xX7_takes 43 h12) fun t13 h14 =>
          if t13 = 0 then
            (cl (xX7_demands 45 h14) fun t15 h16 =>
            if t15 = 0 then
              (xX4_readLine_133 N h16)
            else
              (cl (xX4_readAmount N 45 v7 4 h16) fun t17 h18 =>
              if t17 = 0 then
                (xX4_readLine_133 N h18)
              else
                (xX4_readLine_134 N 1 h18)))
          else
            (cl (xX4_readAmount N 43 v7 4 h14) fun t19 h20 =>
            zok t19 (some (t19, h20))))
        else
          (cl (xX4_readTurn v7 h12) fun t21 h22 =>
          zok t21 (some (t21, h22))))
      else
        (cl (xX7_refuse 7 (h9.1 1 2) h9) fun t23 h24 =>
        zok t23 (some (t23, h24))))
    else
      (cl (xX4_readAmount N 126 0 6 h4) fun t25 h26 =>
      zok t25 (some (t25, h26))))
  else
    (cl (xX4_readPipe N h2) fun t27 h28 =>
    zok t27 (some (t27, h28)))
def xX4_readFrom_45 (N : Nat) (K7 : Int32 → HP → Option (Int32 × HP)) (a3 : Int32) (s0 : Int32) (h : HP) : Option (Int32 × HP) :=
  if s0 ≠ 0 then
    (if a3 ≠ (20 : Int32) then
      (cl (xX4_readLine N h) fun t1 h2 =>
      if t1 ≠ 0 then
        (cl (xX7_isAtEnd h2) fun t3 h4 =>
        if t3 = 0 then
          (cl (xX7_demands 59 h4) fun t5 h6 =>
          if t5 ≠ 0 then
            (lt (a3 + 1) fun v7 =>
            K7 v7 h6)
          else
            (zok 0 (some (0, h6))))
        else
          (zok 1 (some (1, h4))))
      else
        (zok 0 (some (0, h2))))
    else
      (cl (xX7_refuse 4 (h.1 1 2) h) fun t8 h9 =>
      zok t8 (some (t8, h9))))
  else
    (cl (xX7_refuse 1 (h.1 1 2) h) fun t10 h11 =>
    zok t10 (some (t10, h11)))
def xX4_readFrom_40 (N : Nat) (K7 : Int32 → HP → Option (Int32 × HP)) (a3 : Int32) (h : HP) : Option (Int32 × HP) :=
  xX4_readFrom_45 N K7 a3 1 h
def xX4_readFrom_7 (N : Nat) : Nat → Int32 → HP → Option (Int32 × HP)
  | 0 => fun _ _ => none
  | n + 1 => fun a3 h =>
    if (20 : Int32) < a3 then
      (zok 0 (some (0, h)))
    else
      (cl (xX7_peek h) fun t1 h2 =>
      cl (xX7_isAtCorner h2) fun t3 h4 =>
      if t3 ≠ 0 then
        (xX4_readFrom_40 N (xX4_readFrom_7 N n) a3 h4)
      else
        (if t1 = (35 : Int32) then
          (xX4_readFrom_40 N (xX4_readFrom_7 N n) a3 h4)
        else
          (if t1 ≠ (126 : Int32) then
            (xX4_readFrom_45 N (xX4_readFrom_7 N n) a3 0 h4)
          else
            (xX4_readFrom_40 N (xX4_readFrom_7 N n) a3 h4))))
def xX4_readFrom (N : Nat) (h : HP) : Option (Int32 × HP) :=
  lt (up h 27 3 0) fun h1 =>
  xX4_readFrom_7 N N 0 h1
def xX4_carryOut_183 (N : Nat) (K2 : Int32 → HP → Option (Int32 × HP)) (a2 : Int32) (h : HP) : Option (Int32 × HP) :=
  lt (a2 + 1) fun v1 =>
  K2 v1 h
def xX4_carryOut_2 (N : Nat) : Nat → Int32 → HP → Option (Int32 × HP)
  | 0 => fun _ _ => none
  | n + 1 => fun a2 h =>
    if (h.1 27 3) ≤ a2 then
      (some (0, h))
    else
      (ald h 29 20 a2 fun t1 =>
      ald h 28 20 a2 fun t2 =>
      if t2 = 33 then
        (lt (up h 31 3 ((h.1 31 3) &&& ((1 <<< (t1 &&& 31)) ^^^ (-1)))) fun h3 =>
        xX4_carryOut_183 N (xX4_carryOut_2 N n) a2 h3)
      else if t2 = 43 then
        (ald h 32 16 t1 fun t4 =>
        ald h 30 20 a2 fun t5 =>
        ast h 32 16 t1 (imn 9999 (t4 + t5)) fun h6 =>
        xX4_carryOut_183 N (xX4_carryOut_2 N n) a2 h6)
      else if t2 = 45 then
        (ald h 32 16 t1 fun t7 =>
        ald h 30 20 a2 fun t8 =>
        ast h 32 16 t1 (imx 0 (t7 - t8)) fun h9 =>
        xX4_carryOut_183 N (xX4_carryOut_2 N n) a2 h9)
      else if t2 = 63 then
        (lt (up h 31 3 ((h.1 31 3) ||| (1 <<< (t1 &&& 31)))) fun h10 =>
        xX4_carryOut_183 N (xX4_carryOut_2 N n) a2 h10)
      else if t2 = 64 then
        (ald h 30 20 a2 fun t11 =>
        ast h 33 16 t1 t11 fun h12 =>
        xX4_carryOut_183 N (xX4_carryOut_2 N n) a2 h12)
      else (ald h 30 20 a2 fun t13 =>
      lt (up h 31 4 t13) fun h14 =>
      xX4_carryOut_183 N (xX4_carryOut_2 N n) a2 h14))
def xX4_carryOut (N : Nat) (h : HP) : Option (Int32 × HP) :=
  xX4_carryOut_2 N N 0 h
def xX5_settle (N : Nat) (a1 : Int32) (a2 : Int32) (h : HP) : Option (Int32 × HP) :=
  cl (xJ7_fill_53178 N 16 32 0 h) fun t1 h2 =>
  cl (xJ7_fill_53178 N 16 33 0 h2) fun t3 h4 =>
  cl (xJ7_fill_53178 N 16 34 0 h4) fun t5 h6 =>
  lt (up h6 31 7 a1) fun h7 =>
  lt (up h7 31 8 a2) fun h8 =>
  lt (up h8 31 3 ((1 <<< (a2 &&& 31)) - 1)) fun h9 =>
  some (0, h9)
def xX5_become (k0 : Nat) (h : HP) : Option (Int32 × HP) :=
  lt (cpyA h 32 (k0 + 1) 16) fun h1 =>
  lt (cpyA h1 33 (k0 + 2) 16) fun h2 =>
  lt (cpyA h2 34 (k0 + 3) 16) fun h3 =>
  lt (up h3 k0 3 (h3.1 31 3)) fun h4 =>
  lt (up h4 k0 4 (h4.1 31 4)) fun h5 =>
  lt (up h5 k0 5 (h5.1 31 5)) fun h6 =>
  lt (up h6 k0 6 (h6.1 31 6)) fun h7 =>
  lt (up h7 k0 7 (h7.1 31 7)) fun h8 =>
  lt (up h8 k0 8 (h8.1 31 8)) fun h9 =>
  some (0, h9)
def xX5_comeBackTo_87 (N : Nat) (K12 : Int32 → Int32 → HP → Option (Int32 × HP)) (a2 : Int32) (a3 : Int32) (s1 : Int32) (s2 : Int32) (h : HP) : Option (Int32 × HP) :=
  ast h 34 16 s1 s2 fun h1 =>
  lt (a3 + 1) fun v2 =>
  K12 a2 v2 h1
def xX5_comeBackTo_66 (N : Nat) (K12 : Int32 → Int32 → HP → Option (Int32 × HP)) (a2 : Int32) (a3 : Int32) (a4 : Int32) (s1 : Int32) (s2 : Int32) (h : HP) : Option (Int32 × HP) :=
  ast h 33 16 s1 s2 fun h1 =>
  if a4 = 0 then
    (xX5_comeBackTo_87 N K12 a2 a3 a3 0 h1)
  else
    (ald h1 38 16 a3 fun t2 =>
    xX5_comeBackTo_87 N K12 a2 a3 a3 t2 h1)
def xX5_comeBackTo_45 (N : Nat) (K12 : Int32 → Int32 → HP → Option (Int32 × HP)) (a2 : Int32) (a3 : Int32) (a4 : Int32) (s1 : Int32) (s2 : Int32) (h : HP) : Option (Int32 × HP) :=
  ast h 32 16 s1 s2 fun h1 =>
  if a4 = 0 then
    (xX5_comeBackTo_66 N K12 a2 a3 a4 a3 0 h1)
  else
    (ald h1 37 16 a3 fun t2 =>
    xX5_comeBackTo_66 N K12 a2 a3 a4 a3 t2 h1)
def xX5_comeBackTo_12 (N : Nat) : Nat → Int32 → Int32 → HP → Option (Int32 × HP)
  | 0 => fun _ _ _ => none
  | n + 1 => fun a2 a3 h =>
    if (16 : Int32) ≤ a3 then
      (lt (-(1 <<< ((h.1 35 8) &&& 31))) fun v1 =>
      lt (up h 31 3 (((h.1 35 3) ||| v1) &&& ((1 <<< ((h.1 31 8) &&& 31)) - 1))) fun h2 =>
      lt (up h2 31 4 (h2.1 35 4)) fun h3 =>
      lt (up h3 31 5 (h3.1 35 5)) fun h4 =>
      lt (up h4 31 6 (h4.1 35 6)) fun h5 =>
      some (0, h5))
    else
      (cl (xX10_hasBit a2 a3 h) fun t6 h7 =>
      if t6 = 0 then
        (xX5_comeBackTo_45 N (xX5_comeBackTo_12 N n) a2 a3 t6 a3 0 h7)
      else
        (ald h7 36 16 a3 fun t8 =>
        xX5_comeBackTo_45 N (xX5_comeBackTo_12 N n) a2 a3 t6 a3 t8 h7))
def xX5_comeBackTo (N : Nat) (h : HP) : Option (Int32 × HP) :=
  lt ((h.1 31 7) &&& (h.1 35 7)) fun v1 =>
  xX5_comeBackTo_12 N N v1 0 h
def xX5_drawNumber (k0 : Nat) (h : HP) : Option (Int32 × HP) :=
  lt (up h k0 6 (irem ((25173 * (h.1 k0 6)) + 13849) 65536)) fun h1 =>
  some (irem (h1.1 k0 6) 10, h1)
def xX5_allSorrow_4 (N : Nat) (k0 : Nat) : Nat → Int32 → Int32 → HP → Option (Int32 × HP)
  | 0 => fun _ _ _ => none
  | n + 1 => fun a1 a2 h =>
    if (16 : Int32) ≤ a2 then
      (some (a1, h))
    else
      (ald h (k0 + 1) 16 a2 fun t1 =>
      lt (a1 + t1) fun v2 =>
      lt (a2 + 1) fun v3 =>
      (xX5_allSorrow_4 N k0 n) v2 v3 h)
def xX5_allSorrow (N : Nat) (k0 : Nat) (h : HP) : Option (Int32 × HP) :=
  xX5_allSorrow_4 N k0 N 0 0 h
def xX5_allWept_4 (N : Nat) : Nat → Int32 → Int32 → HP → Option (Int32 × HP)
  | 0 => fun _ _ _ => none
  | n + 1 => fun a1 a2 h =>
    if (16 : Int32) ≤ a2 then
      (some (a1, h))
    else
      (ald h 34 16 a2 fun t1 =>
      lt (a1 + t1) fun v2 =>
      lt (a2 + 1) fun v3 =>
      (xX5_allWept_4 N n) v2 v3 h)
def xX5_allWept (N : Nat) (h : HP) : Option (Int32 × HP) :=
  xX5_allWept_4 N N 0 0 h
def xX6_openPipesOf_37 (N : Nat) (K5 : Int32 → Int32 → Int32 → Int32 → HP → Option (Int32 × HP)) (a1 : Int32) (a2 : Int32) (a3 : Int32) (a4 : Int32) (h : HP) : Option (Int32 × HP) :=
  lt (a4 + 1) fun v1 =>
  K5 a1 a2 a3 v1 h
def xX6_openPipesOf_5 (N : Nat) : Nat → Int32 → Int32 → Int32 → Int32 → HP → Option (Int32 × HP)
  | 0 => fun _ _ _ _ _ => none
  | n + 1 => fun a1 a2 a3 a4 h =>
    if (h.1 3 5) ≤ a4 then
      (some (a3, h))
    else
      (cl (xX10_hasBit a2 a4 h) fun t1 h2 =>
      if t1 = 0 then
        (xX6_openPipesOf_37 N (xX6_openPipesOf_5 N n) a1 a2 a3 a4 h2)
      else
        (cl (xX6_across a4 a1 h2) fun t3 h4 =>
        if t3 = (-1 : Int32) then
          (xX6_openPipesOf_37 N (xX6_openPipesOf_5 N n) a1 a2 a3 a4 h4)
        else
          (lt (a3 + 1) fun v5 =>
          xX6_openPipesOf_37 N (xX6_openPipesOf_5 N n) a1 a2 v5 a4 h4)))
def xX6_openPipesOf (N : Nat) (a1 : Int32) (a2 : Int32) (h : HP) : Option (Int32 × HP) :=
  xX6_openPipesOf_5 N N a1 a2 0 0 h
def xX6_besides_45 (N : Nat) (K5 : Int32 → Int32 → Int32 → Int32 → HP → Option (Int32 × HP)) (a1 : Int32) (a2 : Int32) (a3 : Int32) (a4 : Int32) (h : HP) : Option (Int32 × HP) :=
  lt (a4 + 1) fun v1 =>
  K5 a1 a2 a3 v1 h
def xX6_besides_5 (N : Nat) : Nat → Int32 → Int32 → Int32 → Int32 → HP → Option (Int32 × HP)
  | 0 => fun _ _ _ _ _ => none
  | n + 1 => fun a1 a2 a3 a4 h =>
    if (h.1 3 5) ≤ a4 then
      (some (a3, h))
    else
      (cl (xX6_across a4 a1 h) fun t1 h2 =>
      cl (xX10_hasBit a2 a4 h2) fun t3 h4 =>
      if t3 = 0 then
        (xX6_besides_45 N (xX6_besides_5 N n) a1 a2 a3 a4 h4)
      else
        (if t1 = (-1 : Int32) then
          (xX6_besides_45 N (xX6_besides_5 N n) a1 a2 a3 a4 h4)
        else
          (lt (a3 ||| (1 <<< (t1 &&& 31))) fun v5 =>
          xX6_besides_45 N (xX6_besides_5 N n) a1 a2 v5 a4 h4)))
def xX6_besides (N : Nat) (a1 : Int32) (a2 : Int32) (h : HP) : Option (Int32 × HP) :=
  xX6_besides_5 N N a1 a2 0 0 h
def xX6_become (h : HP) : Option (Int32 × HP) :=
  lt (cpyA h 9 4 16) fun h1 =>
  lt (cpyA h1 10 5 24) fun h2 =>
  lt (cpyA h2 11 6 24) fun h3 =>
  lt (cpyA h3 12 7 24) fun h4 =>
  lt (up h4 3 4 (h4.1 8 4)) fun h5 =>
  lt (up h5 3 5 (h5.1 8 5)) fun h6 =>
  some (0, h6)
def xX6_readCorner (h : HP) : Option (Int32 × HP) :=
  cl (xX7_peek h) fun t1 h2 =>
  lt (t1 - 97) fun v3 =>
  lt (up h2 8 4 ((h2.1 8 4) ||| (1 <<< (v3 &&& 31)))) fun h4 =>
  lt (up h4 1 2 ((h4.1 1 2) + 1)) fun h5 =>
  some (v3, h5)
def xX6_readRoad (N : Nat) (a2 : Int32) (h : HP) : Option (Int32 × HP) :=
  if (h.1 8 5) < (24 : Int32) then
    (lt (up h 1 2 ((h.1 1 2) + 1)) fun h1 =>
    cl (xX7_isAtCorner h1) fun t2 h3 =>
    if t2 ≠ 0 then
      (cl (xX7_peek h3) fun t4 h5 =>
      if (t4 - 97) ≠ a2 then
        (cl (xX6_readCorner h5) fun t6 h7 =>
        lt (h7.1 1 2) fun v8 =>
        cl (xX7_readNumber N 2 h7) fun t9 h10 =>
        if t9 ≠ (-1 : Int32) then
          (if t9 ≠ 0 then
            (ast h10 10 24 (h10.1 8 5) a2 fun h11 =>
            ast h11 11 24 (h11.1 8 5) t6 fun h12 =>
            ast h12 12 24 (h12.1 8 5) t9 fun h13 =>
            lt (up h13 8 5 ((h13.1 8 5) + 1)) fun h14 =>
            zok 1 (some (1, h14)))
          else
            (cl (xX7_refuse 3 v8 h10) fun t15 h16 =>
            zok t15 (some (t15, h16))))
        else
          (zok 0 (some (0, h10))))
      else
        (cl (xX7_refuse 6 (h5.1 1 2) h5) fun t17 h18 =>
        zok t17 (some (t17, h18))))
    else
      (cl (xX7_refuse 1 (h3.1 1 2) h3) fun t19 h20 =>
      zok t19 (some (t19, h20))))
  else
    (cl (xX7_refuse 5 (h.1 1 2) h) fun t21 h22 =>
    zok t21 (some (t21, h22)))
def xX6_readLine_83 (N : Nat) (h : HP) : Option (Int32 × HP) :=
  zok 1 (some (1, h))
def xX6_readLine_39 (N : Nat) : Nat → Int32 → Int32 → HP → Option (Int32 × HP)
  | 0 => fun _ _ _ => none
  | n + 1 => fun a2 a3 h =>
    if (24 : Int32) < a3 then
      (xX6_readLine_83 N h)
    else
      (cl (xX7_peek h) fun t1 h2 =>
      if t1 ≠ (45 : Int32) then
        (xX6_readLine_83 N h2)
      else
        (cl (xX6_readRoad N a2 h2) fun t3 h4 =>
        if t3 ≠ 0 then
          (ald h4 11 24 ((h4.1 8 5) - 1) fun t5 =>
          lt (a3 + 1) fun v6 =>
          (xX6_readLine_39 N n) t5 v6 h4)
        else
          (zok 0 (some (0, h4)))))
def xX6_readLine (N : Nat) (h : HP) : Option (Int32 × HP) :=
  cl (xX6_readCorner h) fun t1 h2 =>
  cl (xX7_takes 61 h2) fun t3 h4 =>
  if t3 = 0 then
    (xX6_readLine_39 N N t1 0 h4)
  else
    (cl (xX7_readNumber N 2 h4) fun t5 h6 =>
    if t5 ≠ (-1 : Int32) then
      (ast h6 9 16 t1 t5 fun h7 =>
      zok 1 (some (1, h7)))
    else
      (zok 0 (some (0, h6))))
def xX6_readFrom_20 (N : Nat) : Nat → Int32 → HP → Option (Int32 × HP)
  | 0 => fun _ _ => none
  | n + 1 => fun a2 h =>
    if (24 : Int32) < a2 then
      (zok 0 (some (0, h)))
    else
      (cl (xX7_isAtCorner h) fun t1 h2 =>
      if t1 ≠ 0 then
        (if a2 ≠ (24 : Int32) then
          (cl (xX6_readLine N h2) fun t3 h4 =>
          if t3 ≠ 0 then
            (cl (xX7_isAtEnd h4) fun t5 h6 =>
            if t5 = 0 then
              (cl (xX7_demands 59 h6) fun t7 h8 =>
              if t7 ≠ 0 then
                (lt (a2 + 1) fun v9 =>
                (xX6_readFrom_20 N n) v9 h8)
              else
                (zok 0 (some (0, h8))))
            else
              (zok 1 (some (1, h6))))
          else
            (zok 0 (some (0, h4))))
        else
          (cl (xX7_refuse 4 (h2.1 1 2) h2) fun t10 h11 =>
          zok t10 (some (t10, h11))))
      else
        (cl (xX7_refuse 1 (h2.1 1 2) h2) fun t12 h13 =>
        zok t12 (some (t12, h13))))
def xX6_readFrom (N : Nat) (h : HP) : Option (Int32 × HP) :=
  cl (xJ7_fill_53178 N 16 9 0 h) fun t1 h2 =>
  lt (up h2 8 4 0) fun h3 =>
  lt (up h3 8 5 0) fun h4 =>
  xX6_readFrom_20 N N 0 h4
def xX7_put_45 (N : Nat) (K3 : Int32 → Int32 → HP → Option (Int32 × HP)) (a1 : Int32) (a2 : Int32) (h : HP) : Option (Int32 × HP) :=
  lt (a2 + (-8)) fun v1 =>
  K3 a1 v1 h
def xX7_put_3 (N : Nat) : Nat → Int32 → Int32 → HP → Option (Int32 × HP)
  | 0 => fun _ _ _ => none
  | n + 1 => fun a1 a2 h =>
    if a2 < 0 then
      (some (0, h))
    else
      (if (260 : Int32) ≤ (h.1 1 1) then
        (xX7_put_45 N (xX7_put_3 N n) a1 a2 h)
      else
        (ast h 2 260 (h.1 1 1) ((ushr a1 a2) &&& 255) fun h1 =>
        lt (up h1 1 1 ((h1.1 1 1) + 1)) fun h2 =>
        xX7_put_45 N (xX7_put_3 N n) a1 a2 h2))
def xX7_put (N : Nat) (a1 : Int32) (h : HP) : Option (Int32 × HP) :=
  xX7_put_3 N N a1 24 h
def xX7_gives_18 (h : HP) : Option (Int32 × HP) :=
  zok 0 (some (0, h))
def xX7_gives (a1 : Int32) (a2 : Int32) (a3 : Int32) (h : HP) : Option (Int32 × HP) :=
  if a1 < a2 then
    (xX7_gives_18 h)
  else
    (if a3 < a1 then
      (xX7_gives_18 h)
    else
      (if a1 ≤ (h.1 1 1) then
        (lt (up h 1 1 0) fun h1 =>
        lt (up h1 1 2 0) fun h2 =>
        lt (up h2 1 3 a1) fun h3 =>
        lt (up h3 1 4 0) fun h4 =>
        zok 1 (some (1, h4)))
      else
        (xX7_gives_18 h)))
def xX8_neededBy_12 (h : HP) : Option (Int32 × HP) :=
  some (0, h)
def xX8_neededBy_37 (s0 : Int32) (h : HP) : Option (Int32 × HP) :=
  some (s0, h)
def xX8_neededBy_32 (h : HP) : Option (Int32 × HP) :=
  xX8_neededBy_37 1 h
def xX8_neededBy (a0 : Int32) (h : HP) : Option (Int32 × HP) :=
  if a0 = (48 : Int32) then
    (xX8_neededBy_12 h)
  else
    (if a0 ≠ (97 : Int32) then
      (if a0 = (33 : Int32) then
        (xX8_neededBy_32 h)
      else
        (if a0 = (38 : Int32) then
          (xX8_neededBy_32 h)
        else
          (if a0 ≠ (124 : Int32) then
            (xX8_neededBy_37 2 h)
          else
            (xX8_neededBy_32 h))))
    else
      (xX8_neededBy_12 h))
def xX8_mostBeside_61 (N : Nat) (K4 : Int32 → Int32 → HP → Option (Int32 × HP)) (a1 : Int32) (a2 : Int32) (h : HP) : Option (Int32 × HP) :=
  lt (a2 + 1) fun v1 =>
  K4 a1 v1 h
def xX8_mostBeside_4 (N : Nat) : Nat → Int32 → Int32 → HP → Option (Int32 × HP)
  | 0 => fun _ _ _ => none
  | n + 1 => fun a1 a2 h =>
    if (h.1 3 5) ≤ a2 then
      (some (a1, h))
    else
      (cl (xX6_across a2 (h.1 43 4) h) fun t1 h2 =>
      lt (h2.1 43 3).toNatClampNeg fun k3 => iok (isSt k3) <|
      cl (xX10_hasBit (h2.1 k3 3) a2 h2) fun t4 h5 =>
      if t4 = 0 then
        (xX8_mostBeside_61 N (xX8_mostBeside_4 N n) a1 a2 h5)
      else
        (if t1 = (-1 : Int32) then
          (xX8_mostBeside_61 N (xX8_mostBeside_4 N n) a1 a2 h5)
        else
          (lt (h5.1 43 3).toNatClampNeg fun k6 => iok (isSt k6) <|
          ald h5 (k6 + 1) 16 t1 fun t7 =>
          lt (imx a1 t7) fun v8 =>
          xX8_mostBeside_61 N (xX8_mostBeside_4 N n) v8 a2 h5)))
def xX8_mostBeside (N : Nat) (h : HP) : Option (Int32 × HP) :=
  xX8_mostBeside_4 N N 0 0 h
def xX8_letter (N : Nat) (a1 : Int32) (h : HP) : Option (Int32 × HP) :=
  if a1 = 97 then
    (lt (h.1 43 3).toNatClampNeg fun k1 => iok (isSt k1) <|
    some ((h.1 k1 4) / 100, h))
  else if a1 = 99 then
    (some (h.1 43 4, h))
  else if a1 = 104 then
    (ald h 4 16 (h.1 43 4) fun t2 =>
    some (t2, h))
  else if a1 = 109 then
    (cl (xX8_mostBeside N h) fun t3 h4 =>
    some (t3, h4))
  else if a1 = 110 then
    (lt (h.1 43 3).toNatClampNeg fun k5 => iok (isSt k5) <|
    cl (xX6_openPipesOf N (h.1 43 4) (h.1 k5 3) h) fun t6 h7 =>
    some (t6, h7))
  else if a1 = 113 then
    (lt (h.1 43 3).toNatClampNeg fun k8 => iok (isSt k8) <|
    ald h (k8 + 3) 16 (h.1 43 4) fun t9 =>
    some (t9 / 100, h))
  else if a1 = 115 then
    (lt (h.1 43 3).toNatClampNeg fun k10 => iok (isSt k10) <|
    ald h (k10 + 1) 16 (h.1 43 4) fun t11 =>
    some (t11, h))
  else if a1 = 116 then
    (lt (h.1 43 3).toNatClampNeg fun k12 => iok (isSt k12) <|
    some (irem (h.1 k12 5) 100, h))
  else if a1 = 117 then
    (lt (h.1 43 3).toNatClampNeg fun k13 => iok (isSt k13) <|
    ald h (k13 + 2) 16 (h.1 43 4) fun t14 =>
    some (t14, h))
  else (some (h.1 43 5, h))
def xX8_reckon_91 (s0 : Int32) (h : HP) : Option (Int32 × HP) :=
  some (s0, h)
def xX8_reckon_103 (s0 : Int32) (h : HP) : Option (Int32 × HP) :=
  some (s0, h)
def xX8_reckon_114 (s0 : Int32) (h : HP) : Option (Int32 × HP) :=
  some (s0, h)
def xX8_reckon_125 (s0 : Int32) (h : HP) : Option (Int32 × HP) :=
  some (s0, h)
def xX8_reckon_136 (s0 : Int32) (h : HP) : Option (Int32 × HP) :=
  some (s0, h)
def xX8_reckon (a0 : Int32) (a1 : Int32) (a2 : Int32) (h : HP) : Option (Int32 × HP) :=
  if a0 = 37 then
    (if a2 ≠ 0 then
      (rmd a1 a2 fun t1 =>
      xX8_reckon_103 t1 h)
    else
      (xX8_reckon_103 0 h))
  else if a0 = 42 then
    (some (a1 * a2, h))
  else if a0 = 43 then
    (some (a1 + a2, h))
  else if a0 = 45 then
    (some (a1 - a2, h))
  else if a0 = 47 then
    (if a2 ≠ 0 then
      (dvd a1 a2 fun t2 =>
      xX8_reckon_91 t2 h)
    else
      (xX8_reckon_91 0 h))
  else if a0 = 60 then
    (if a2 ≤ a1 then
      (xX8_reckon_114 0 h)
    else
      (xX8_reckon_114 1 h))
  else if a0 = 62 then
    (if a1 ≤ a2 then
      (xX8_reckon_125 0 h)
    else
      (xX8_reckon_125 1 h))
  else (if a1 ≠ a2 then
    (xX8_reckon_136 0 h)
  else
    (xX8_reckon_136 1 h))
def xX8_work_67 (N : Nat) (h : HP) : Option (Int32 × HP) :=
  zok 0 (some (0, h))
def xX8_work_270 (N : Nat) (K8 : Int32 → Int32 → Int32 → Int32 → HP → Option (Int32 × HP)) (a2 : Int32) (a3 : Int32) (a4 : Int32) (a5 : Int32) (h : HP) : Option (Int32 × HP) :=
  lt (a5 + 1) fun v1 =>
  K8 a2 a3 a4 v1 h
def xX8_work_106 (N : Nat) (K8 : Int32 → Int32 → Int32 → Int32 → HP → Option (Int32 × HP)) (a2 : Int32) (a3 : Int32) (a4 : Int32) (a5 : Int32) (s1 : Int32) (s2 : Int32) (h : HP) : Option (Int32 × HP) :=
  ast h 44 240 s1 s2 fun h1 =>
  lt (a3 + 1) fun v2 =>
  xX8_work_270 N K8 a2 v2 a4 a5 h1
def xX8_work_83 (N : Nat) (K8 : Int32 → Int32 → Int32 → Int32 → HP → Option (Int32 × HP)) (a2 : Int32) (a3 : Int32) (a4 : Int32) (a5 : Int32) (a6 : Int32) (a7 : Int32) (h : HP) : Option (Int32 × HP) :=
  if a6 ≠ (48 : Int32) then
    (cl (xX8_letter N a7 h) fun t1 h2 =>
    xX8_work_106 N K8 a2 a3 a4 a5 a3 t1 h2)
  else
    (xX8_work_106 N K8 a2 a3 a4 a5 a3 a7 h)
def xX8_work_211 (N : Nat) (K8 : Int32 → Int32 → Int32 → Int32 → HP → Option (Int32 × HP)) (a2 : Int32) (a4 : Int32) (a5 : Int32) (s0 : Int32) (h : HP) : Option (Int32 × HP) :=
  xX8_work_270 N K8 a2 s0 a4 a5 h
def xX8_work_197 (N : Nat) (K8 : Int32 → Int32 → Int32 → Int32 → HP → Option (Int32 × HP)) (a2 : Int32) (a3 : Int32) (a5 : Int32) (a8 : Int32) (s0 : Int32) (h : HP) : Option (Int32 × HP) :=
  if a8 = 0 then
    (xX8_work_211 N K8 a2 s0 a5 (a3 - 1) h)
  else
    (xX8_work_211 N K8 a2 s0 a5 a3 h)
def xX8_work_183 (N : Nat) (K8 : Int32 → Int32 → Int32 → Int32 → HP → Option (Int32 × HP)) (a2 : Int32) (a3 : Int32) (a4 : Int32) (a5 : Int32) (a7 : Int32) (s0 : Int32) (h : HP) : Option (Int32 × HP) :=
  if s0 = 0 then
    (xX8_work_197 N K8 a2 a3 a5 s0 a4 h)
  else
    (xX8_work_197 N K8 a2 a3 a5 s0 a7 h)
def xX8_work_175 (N : Nat) (K8 : Int32 → Int32 → Int32 → Int32 → HP → Option (Int32 × HP)) (a2 : Int32) (a3 : Int32) (a4 : Int32) (a5 : Int32) (a7 : Int32) (s0 : Int32) (s1 : Int32) (h : HP) : Option (Int32 × HP) :=
  if s0 ≠ s1 then
    (xX8_work_183 N K8 a2 a3 a4 a5 a7 0 h)
  else
    (xX8_work_183 N K8 a2 a3 a4 a5 a7 1 h)
def xX8_work_155 (N : Nat) (K8 : Int32 → Int32 → Int32 → Int32 → HP → Option (Int32 × HP)) (a2 : Int32) (a3 : Int32) (a4 : Int32) (a5 : Int32) (a6 : Int32) (a7 : Int32) (h : HP) : Option (Int32 × HP) :=
  ald h 44 240 (a3 - 1) fun t1 =>
  if a6 ≠ (38 : Int32) then
    (xX8_work_175 N K8 a2 a3 a4 a5 a7 t1 1 h)
  else
    (xX8_work_175 N K8 a2 a3 a4 a5 a7 t1 0 h)
def xX8_work_245 (N : Nat) (h : HP) : Option (Int32 × HP) :=
  zok 0 (some (0, h))
def xX8_work_247 (N : Nat) (K8 : Int32 → Int32 → Int32 → Int32 → HP → Option (Int32 × HP)) (a2 : Int32) (a3 : Int32) (a4 : Int32) (a5 : Int32) (a6 : Int32) (a8 : Int32) (h : HP) : Option (Int32 × HP) :=
  ald h 44 240 (a3 - 1) fun t1 =>
  cl (xX8_reckon a6 t1 a8 h) fun t2 h3 =>
  ast h3 44 240 (a3 - 1) t2 fun h4 =>
  xX8_work_270 N K8 a2 a3 a4 a5 h4
def xX8_work_276 (N : Nat) (h : HP) : Option (Int32 × HP) :=
  ald h 44 240 0 fun t1 =>
  lt (up h 43 6 t1) fun h2 =>
  zok 1 (some (1, h2))
def xX8_work_8 (N : Nat) : Nat → Int32 → Int32 → Int32 → Int32 → HP → Option (Int32 × HP)
  | 0 => fun _ _ _ _ _ => none
  | n + 1 => fun a2 a3 a4 a5 h =>
    if (240 : Int32) ≤ a5 then
      (xX8_work_276 N h)
    else
      (if a2 ≤ a4 then
        (xX8_work_276 N h)
      else
        (ald h 14 240 a4 fun t1 =>
        ald h 15 240 a4 fun t2 =>
        lt (a4 + 1) fun v3 =>
        cl (xX8_neededBy t1 h) fun t4 h5 =>
        if a3 < t4 then
          (xX8_work_67 N h5)
        else
          (if a3 < (240 : Int32) then
            (if t1 = (48 : Int32) then
              (xX8_work_83 N (xX8_work_8 N n) a2 a3 v3 a5 t1 t2 h5)
            else
              (if t1 ≠ (97 : Int32) then
                (if t1 ≠ (33 : Int32) then
                  (if t1 = (38 : Int32) then
                    (xX8_work_155 N (xX8_work_8 N n) a2 a3 v3 a5 t1 t2 h5)
                  else
                    (if t1 ≠ (124 : Int32) then
                      (lt (a3 + (-1)) fun v6 =>
                      ald h5 44 240 v6 fun t7 =>
                      if t7 ≠ 0 then
                        (xX8_work_247 N (xX8_work_8 N n) a2 v6 v3 a5 t1 t7 h5)
                      else
                        (if t1 = (47 : Int32) then
                          (xX8_work_245 N h5)
                        else
                          (if t1 ≠ (37 : Int32) then
                            (xX8_work_247 N (xX8_work_8 N n) a2 v6 v3 a5 t1 t7 h5)
                          else
                            (xX8_work_245 N h5))))
                    else
                      (xX8_work_155 N (xX8_work_8 N n) a2 a3 v3 a5 t1 t2 h5)))
                else
                  (ald h5 44 240 (a3 - 1) fun t8 =>
                  ast h5 44 240 (a3 - 1) (1 - t8) fun h9 =>
                  xX8_work_270 N (xX8_work_8 N n) a2 a3 v3 a5 h9))
              else
                (xX8_work_83 N (xX8_work_8 N n) a2 a3 v3 a5 t1 t2 h5)))
          else
            (xX8_work_67 N h5))))
def xX8_work (N : Nat) (a1 : Int32) (a2 : Int32) (h : HP) : Option (Int32 × HP) :=
  xX8_work_8 N N a2 0 a1 0 h
def xX8_amountOf_114 (N : Nat) (s0 : Int32) (h : HP) : Option (Int32 × HP) :=
  some (s0, h)
def xX8_amountOf_115 (N : Nat) (K2 : Int32 → Int32 → HP → Option (Int32 × HP)) (a1 : Int32) (a2 : Int32) (h : HP) : Option (Int32 × HP) :=
  lt (a2 + 1) fun v1 =>
  K2 a1 v1 h
def xX8_amountOf_31 (N : Nat) (K2 : Int32 → Int32 → HP → Option (Int32 × HP)) (a1 : Int32) (a2 : Int32) (s0 : Int32) (h : HP) : Option (Int32 × HP) :=
  if s0 = 0 then
    (xX8_amountOf_115 N K2 a1 a2 h)
  else
    (ald h 18 16 a2 fun t1 =>
    ald h 19 16 a2 fun t2 =>
    cl (xX8_work N t1 t2 h) fun t3 h4 =>
    if t3 = 0 then
      (xX8_amountOf_115 N K2 a1 a2 h4)
    else
      (if (h4.1 43 6) = 0 then
        (xX8_amountOf_115 N K2 a1 a2 h4)
      else
        (ald h4 17 16 a2 fun t5 =>
        ald h4 18 16 a2 fun t6 =>
        cl (xX8_work N t5 t6 h4) fun t7 h8 =>
        if t7 = 0 then
          (xX8_amountOf_114 N 0 h8)
        else
          (xX8_amountOf_114 N (imx 0 (imn 99 (h8.1 43 6))) h8))))
def xX8_amountOf_2 (N : Nat) : Nat → Int32 → Int32 → HP → Option (Int32 × HP)
  | 0 => fun _ _ _ => none
  | n + 1 => fun a1 a2 h =>
    if (h.1 13 7) ≤ a2 then
      (some (1, h))
    else
      (ald h 16 16 a2 fun t1 =>
      if t1 ≠ a1 then
        (xX8_amountOf_31 N (xX8_amountOf_2 N n) a1 a2 0 h)
      else
        (xX8_amountOf_31 N (xX8_amountOf_2 N n) a1 a2 1 h))
def xX8_amountOf (N : Nat) (a1 : Int32) (h : HP) : Option (Int32 × HP) :=
  xX8_amountOf_2 N N a1 0 h
def xX8_rise_99 (N : Nat) (K2 : Int32 → HP → Option (Int32 × HP)) (a1 : Int32) (h : HP) : Option (Int32 × HP) :=
  lt (a1 + 1) fun v1 =>
  K2 v1 h
def xX8_rise_2 (N : Nat) : Nat → Int32 → HP → Option (Int32 × HP)
  | 0 => fun _ _ => none
  | n + 1 => fun a1 h =>
    if (16 : Int32) ≤ a1 then
      (some (0, h))
    else
      (cl (xX6_isTold a1 h) fun t1 h2 =>
      if t1 ≠ 0 then
        (lt (up h2 43 4 a1) fun h3 =>
        lt (h3.1 43 3).toNatClampNeg fun k4 => iok (isSt k4) <|
        cl (xX5_drawNumber k4 h3) fun t5 h6 =>
        lt (up h6 43 5 t5) fun h7 =>
        lt (h7.1 43 3).toNatClampNeg fun k8 => iok (isSt k8) <|
        lt (h7.1 43 3).toNatClampNeg fun k9 => iok (isSt k9) <|
        ald h7 (k9 + 1) 16 a1 fun t10 =>
        lt (imn (h7.1 k8 4) (9999 - t10)) fun v11 =>
        cl (xX8_amountOf N 114 h7) fun t12 h13 =>
        lt (imn t12 v11) fun v14 =>
        lt (h13.1 43 3).toNatClampNeg fun k15 => iok (isSt k15) <|
        ald h13 (k15 + 1) 16 a1 fun t16 =>
        ast h13 (k15 + 1) 16 a1 (t16 + v14) fun h17 =>
        lt (h17.1 43 3).toNatClampNeg fun k18 => iok (isSt k18) <|
        lt (up h17 k18 4 ((h17.1 k18 4) - v14)) fun h19 =>
        xX8_rise_99 N (xX8_rise_2 N n) a1 h19)
      else
        (xX8_rise_99 N (xX8_rise_2 N n) a1 h2))
def xX8_rise (N : Nat) (h : HP) : Option (Int32 × HP) :=
  xX8_rise_2 N N 0 h
def xX8_give (a1 : Int32) (a2 : Int32) (a3 : Int32) (h : HP) : Option (Int32 × HP) :=
  lt (h.1 43 3).toNatClampNeg fun k1 => iok (isSt k1) <|
  ald h (k1 + 1) 16 a1 fun t2 =>
  lt (h.1 43 3).toNatClampNeg fun k3 => iok (isSt k3) <|
  ald h (k3 + 1) 16 a2 fun t4 =>
  lt (imn t2 (9999 - t4)) fun v5 =>
  lt (imn a3 v5) fun v6 =>
  lt (h.1 43 3).toNatClampNeg fun k7 => iok (isSt k7) <|
  ald h (k7 + 1) 16 a1 fun t8 =>
  ast h (k7 + 1) 16 a1 (t8 - v6) fun h9 =>
  lt (h9.1 43 3).toNatClampNeg fun k10 => iok (isSt k10) <|
  ald h9 (k10 + 1) 16 a2 fun t11 =>
  ast h9 (k10 + 1) 16 a2 (t11 + v6) fun h12 =>
  some (0, h12)
def xX8_level_144 (N : Nat) (K2 : Int32 → HP → Option (Int32 × HP)) (a1 : Int32) (h : HP) : Option (Int32 × HP) :=
  lt (a1 + 1) fun v1 =>
  K2 v1 h
def xX8_level_2 (N : Nat) : Nat → Int32 → HP → Option (Int32 × HP)
  | 0 => fun _ _ => none
  | n + 1 => fun a1 h =>
    if (h.1 3 5) ≤ a1 then
      (some (0, h))
    else
      (lt (h.1 43 3).toNatClampNeg fun k1 => iok (isSt k1) <|
      cl (xX10_hasBit (h.1 k1 3) a1 h) fun t2 h3 =>
      if t2 ≠ 0 then
        (ald h3 5 24 a1 fun t4 =>
        ald h3 6 24 a1 fun t5 =>
        ald h3 4 16 t4 fun t6 =>
        lt (h3.1 43 3).toNatClampNeg fun k7 => iok (isSt k7) <|
        ald h3 (k7 + 1) 16 t4 fun t8 =>
        ald h3 4 16 t5 fun t9 =>
        lt (h3.1 43 3).toNatClampNeg fun k10 => iok (isSt k10) <|
        ald h3 (k10 + 1) 16 t5 fun t11 =>
        lt (((t6 + t8) - t9) - t11) fun v12 =>
        if v12 < 0 then
          (ald h3 7 24 a1 fun t13 =>
          cl (xX8_give t5 t4 (imn t13 ((-v12) / 2)) h3) fun t14 h15 =>
          xX8_level_144 N (xX8_level_2 N n) a1 h15)
        else
          (ald h3 7 24 a1 fun t16 =>
          cl (xX8_give t4 t5 (imn t16 (v12 / 2)) h3) fun t17 h18 =>
          xX8_level_144 N (xX8_level_2 N n) a1 h18))
      else
        (xX8_level_144 N (xX8_level_2 N n) a1 h3))
def xX8_level (N : Nat) (h : HP) : Option (Int32 × HP) :=
  xX8_level_2 N N 0 h
def xX8_isFrozen_71 (N : Nat) (K2 : Int32 → HP → Option (Int32 × HP)) (a1 : Int32) (h : HP) : Option (Int32 × HP) :=
  lt (a1 + 1) fun v1 =>
  K2 v1 h
def xX8_isFrozen_32 (N : Nat) (K2 : Int32 → HP → Option (Int32 × HP)) (a1 : Int32) (s0 : Int32) (h : HP) : Option (Int32 × HP) :=
  if s0 = 0 then
    (xX8_isFrozen_71 N K2 a1 h)
  else
    (ald h 18 16 a1 fun t1 =>
    ald h 19 16 a1 fun t2 =>
    cl (xX8_work N t1 t2 h) fun t3 h4 =>
    if t3 = 0 then
      (xX8_isFrozen_71 N K2 a1 h4)
    else
      (if (h4.1 43 6) = 0 then
        (xX8_isFrozen_71 N K2 a1 h4)
      else
        (zok 1 (some (1, h4)))))
def xX8_isFrozen_2 (N : Nat) : Nat → Int32 → HP → Option (Int32 × HP)
  | 0 => fun _ _ => none
  | n + 1 => fun a1 h =>
    if (h.1 13 7) ≤ a1 then
      (zok 0 (some (0, h)))
    else
      (ald h 16 16 a1 fun t1 =>
      if t1 ≠ (120 : Int32) then
        (xX8_isFrozen_32 N (xX8_isFrozen_2 N n) a1 0 h)
      else
        (xX8_isFrozen_32 N (xX8_isFrozen_2 N n) a1 1 h))
def xX8_isFrozen (N : Nat) (h : HP) : Option (Int32 × HP) :=
  xX8_isFrozen_2 N N 0 h
def xX8_weep_133 (N : Nat) (K4 : Int32 → Int32 → HP → Option (Int32 × HP)) (a1 : Int32) (a2 : Int32) (h : HP) : Option (Int32 × HP) :=
  lt (a2 + 1) fun v1 =>
  K4 a1 v1 h
def xX8_weep_4 (N : Nat) : Nat → Int32 → Int32 → HP → Option (Int32 × HP)
  | 0 => fun _ _ _ => none
  | n + 1 => fun a1 a2 h =>
    if (16 : Int32) ≤ a2 then
      (some (a1, h))
    else
      (cl (xX6_isTold a2 h) fun t1 h2 =>
      if t1 = 0 then
        (xX8_weep_133 N (xX8_weep_4 N n) a1 a2 h2)
      else
        (lt (h2.1 43 3).toNatClampNeg fun k3 => iok (isSt k3) <|
        ald h2 (k3 + 2) 16 a2 fun t4 =>
        if t4 ≠ 0 then
          (lt (up h2 43 4 a2) fun h5 =>
          lt (h5.1 43 3).toNatClampNeg fun k6 => iok (isSt k6) <|
          cl (xX5_drawNumber k6 h5) fun t7 h8 =>
          lt (up h8 43 5 t7) fun h9 =>
          cl (xX8_isFrozen N h9) fun t10 h11 =>
          if t10 = 0 then
            (lt (h11.1 43 3).toNatClampNeg fun k12 => iok (isSt k12) <|
            ald h11 (k12 + 2) 16 a2 fun t13 =>
            cl (xX8_amountOf N 111 h11) fun t14 h15 =>
            lt (h15.1 43 3).toNatClampNeg fun k16 => iok (isSt k16) <|
            ald h15 (k16 + 1) 16 a2 fun t17 =>
            lt (imn (t13 * t14) t17) fun v18 =>
            lt (h15.1 43 3).toNatClampNeg fun k19 => iok (isSt k19) <|
            ald h15 (k19 + 1) 16 a2 fun t20 =>
            ast h15 (k19 + 1) 16 a2 (t20 - v18) fun h21 =>
            lt (h21.1 43 3).toNatClampNeg fun k22 => iok (isSt k22) <|
            lt (h21.1 43 3).toNatClampNeg fun k23 => iok (isSt k23) <|
            ald h21 (k23 + 3) 16 a2 fun t24 =>
            ast h21 (k22 + 3) 16 a2 (imn 999999 (t24 + v18)) fun h25 =>
            lt (a1 + v18) fun v26 =>
            xX8_weep_133 N (xX8_weep_4 N n) v26 a2 h25)
          else
            (xX8_weep_133 N (xX8_weep_4 N n) a1 a2 h11))
        else
          (xX8_weep_133 N (xX8_weep_4 N n) a1 a2 h2)))
def xX8_weep (N : Nat) (h : HP) : Option (Int32 × HP) :=
  xX8_weep_4 N N 0 0 h
def xX8_pass_63 (N : Nat) (k0 : Nat) (a3 : Int32) (h : HP) : Option (Int32 × HP) :=
  some (a3, h)
def xX8_pass_10 (N : Nat) (k0 : Nat) : Nat → Int32 → Int32 → Int32 → HP → Option (Int32 × HP)
  | 0 => fun _ _ _ _ => none
  | n + 1 => fun a1 a3 a4 h =>
    if a1 ≤ a4 then
      (xX8_pass_63 N k0 a3 h)
    else
      (lt (h.1 43 3).toNatClampNeg fun k1 => iok (isSt k1) <|
      if (9999 : Int32) ≤ (h.1 k1 5) then
        (xX8_pass_63 N k0 a3 h)
      else
        (cl (xX8_rise N h) fun t2 h3 =>
        cl (xX8_level N h3) fun t4 h5 =>
        cl (xX8_weep N h5) fun t6 h7 =>
        lt (a3 + t6) fun v8 =>
        lt (h7.1 43 3).toNatClampNeg fun k9 => iok (isSt k9) <|
        lt (up h7 k9 5 ((h7.1 k9 5) + 1)) fun h10 =>
        lt (a4 + 1) fun v11 =>
        (xX8_pass_10 N k0 n) a1 v8 v11 h10))
def xX8_pass (N : Nat) (k0 : Nat) (a1 : Int32) (h : HP) : Option (Int32 × HP) :=
  lt (up h 43 3 (nI k0)) fun h1 =>
  xX8_pass_10 N k0 N a1 0 0 h1
def xX9_measureOdds_26 (N : Nat) (K2 : Int32 → HP → Option (Int32 × HP)) : Nat → Int32 → Int32 → HP → Option (Int32 × HP)
  | 0 => fun _ _ _ => none
  | n + 1 => fun a1 a2 h =>
    if (h.1 52 5) ≤ a2 then
      (lt (a1 + 1) fun v1 =>
      K2 v1 h)
    else
      (ald h 53 16 a2 fun t2 =>
      ald h 47 16 t2 fun t3 =>
      ast h 54 256 ((a1 * 16) + a2) t3 fun h4 =>
      lt (a2 + 1) fun v5 =>
      (xX9_measureOdds_26 N K2 n) a1 v5 h4)
def xX9_measureOdds_2 (N : Nat) : Nat → Int32 → HP → Option (Int32 × HP)
  | 0 => fun _ _ => none
  | n + 1 => fun a1 h =>
    if (h.1 52 5) ≤ a1 then
      (some (0, h))
    else
      (ald h 53 16 a1 fun t1 =>
      cl (xX3_measureFrom N t1 h) fun t2 h3 =>
      xX9_measureOdds_26 N (xX9_measureOdds_2 N n) N a1 0 h3)
def xX9_measureOdds (N : Nat) (h : HP) : Option (Int32 × HP) :=
  xX9_measureOdds_2 N N 0 h
def xX9_costOf (a1 : Int32) (h : HP) : Option (Int32 × HP) :=
  alL h 2048 (a1 >>> (4 &&& 31)) fun t1 =>
  some (((lushr t1 ((a1 &&& 15) <<< (2 &&& 31))) &&& 15).toInt32, h)
def xX9_leastFor_82 (N : Nat) (K26 : Int32 → Int32 → Int32 → Int32 → HP → Option (Int32 × HP)) (a2 : Int32) (a3 : Int32) (a4 : Int32) (a5 : Int32) (h : HP) : Option (Int32 × HP) :=
  lt (a5 + 1) fun v1 =>
  K26 a2 a3 a4 v1 h
def xX9_leastFor_26 (N : Nat) : Nat → Int32 → Int32 → Int32 → Int32 → HP → Option (Int32 × HP)
  | 0 => fun _ _ _ _ _ => none
  | n + 1 => fun a2 a3 a4 a5 h =>
    if (h.1 52 5) ≤ a5 then
      (some (a4, h))
    else
      (cl (xX10_hasBit a3 a5 h) fun t1 h2 =>
      if t1 = 0 then
        (xX9_leastFor_82 N (xX9_leastFor_26 N n) a2 a3 a4 a5 h2)
      else
        (lt (a3 &&& ((1 <<< (a5 &&& 31)) ^^^ (-1))) fun v3 =>
        ald h2 54 256 ((a2 * 16) + a5) fun t4 =>
        cl (xX9_costOf (v3 >>> (1 &&& 31)) h2) fun t5 h6 =>
        lt (imn a4 (t4 + t5)) fun v7 =>
        xX9_leastFor_82 N (xX9_leastFor_26 N n) a2 a3 v7 a5 h6))
def xX9_leastFor (N : Nat) (a1 : Int32) (h : HP) : Option (Int32 × HP) :=
  if a1 ≠ 0 then
    (cl (xX10_lowest a1 h) fun t1 h2 =>
    lt (a1 &&& (a1 - 1)) fun v3 =>
    lt (t1 + 1) fun v4 =>
    xX9_leastFor_26 N N t1 v3 15 v4 h2)
  else
    (some (0, h))
def xX9_setCost (a1 : Int32) (a2 : Int32) (h : HP) : Option (Int32 × HP) :=
  lt ((a1 &&& 15) <<< (2 &&& 31)) fun v1 =>
  alL h 2048 (a1 >>> (4 &&& 31)) fun t2 =>
  asL h 2048 (a1 >>> (4 &&& 31)) ((t2 &&& (((15 : Int64) <<< (v1.toInt64 &&& 63)) ^^^ (-1))) ||| (a2.toInt64 <<< (v1.toInt64 &&& 63))) fun h3 =>
  some (0, h3)
def xX9_pairUp_81 (N : Nat) (K15 : Int32 → Int32 → HP → Option (Int32 × HP)) (a1 : Int32) (a2 : Int32) (h : HP) : Option (Int32 × HP) :=
  lt (a2 + 1) fun v1 =>
  K15 a1 v1 h
def xX9_pairUp_64 (N : Nat) (K15 : Int32 → Int32 → HP → Option (Int32 × HP)) (a1 : Int32) (a2 : Int32) (a3 : Int32) (s0 : Int32) (h : HP) : Option (Int32 × HP) :=
  if s0 = 0 then
    (xX9_pairUp_81 N K15 a1 a2 h)
  else
    (cl (xX9_leastFor N a3 h) fun t1 h2 =>
    cl (xX9_setCost a2 t1 h2) fun t3 h4 =>
    xX9_pairUp_81 N K15 a1 a2 h4)
def xX9_pairUp_59 (N : Nat) (K15 : Int32 → Int32 → HP → Option (Int32 × HP)) (a1 : Int32) (a2 : Int32) (a3 : Int32) (h : HP) : Option (Int32 × HP) :=
  xX9_pairUp_64 N K15 a1 a2 a3 1 h
def xX9_pairUp_15 (N : Nat) : Nat → Int32 → Int32 → HP → Option (Int32 × HP)
  | 0 => fun _ _ _ => none
  | n + 1 => fun a1 a2 h =>
    if a1 ≤ a2 then
      (cl (xX9_costOf (a1 - 1) h) fun t1 h2 =>
      some (t1, h2))
    else
      (cl (xJ6_bitCount_0f7a4 a2 h) fun t3 h4 =>
      lt ((a2 <<< (1 &&& 31)) ||| (t3 &&& 1)) fun v5 =>
      cl (xJ6_bitCount_0f7a4 v5 h4) fun t6 h7 =>
      lt ((h4.1 52 5) - t6) fun v8 =>
      if v5 = 0 then
        (xX9_pairUp_59 N (xX9_pairUp_15 N n) a1 a2 v5 h7)
      else
        (if (v5 &&& (-v5)) < (1 <<< ((v8 / 2) &&& 31)) then
          (xX9_pairUp_64 N (xX9_pairUp_15 N n) a1 a2 v5 0 h7)
        else
          (xX9_pairUp_59 N (xX9_pairUp_15 N n) a1 a2 v5 h7)))
def xX9_pairUp (N : Nat) (h : HP) : Option (Int32 × HP) :=
  cl (xX9_measureOdds N h) fun t1 h2 =>
  lt (1 <<< (((h2.1 52 5) - 1) &&& 31)) fun v3 =>
  xX9_pairUp_15 N N v3 0 h2
def xX9_paintAll_84 (N : Nat) (K20 : Int32 → Int32 → Int32 → Int32 → HP → Option (Int32 × HP)) (a2 : Int32) (a3 : Int32) (a4 : Int32) (a5 : Int32) (h : HP) : Option (Int32 × HP) :=
  lt (a5 + 1) fun v1 =>
  K20 a2 a3 a4 v1 h
def xX9_paintAll_109 (N : Nat) (s0 : Int32) (s1 : Int32) (h : HP) : Option (Int32 × HP) :=
  some (s0 + s1, h)
def xX9_paintAll_20 (N : Nat) : Nat → Int32 → Int32 → Int32 → Int32 → HP → Option (Int32 × HP)
  | 0 => fun _ _ _ _ _ => none
  | n + 1 => fun a2 a3 a4 a5 h =>
    if (16 : Int32) ≤ a5 then
      (if (h.1 52 5) ≠ 0 then
        (cl (xX9_pairUp N h) fun t1 h2 =>
        xX9_paintAll_109 N (a4 / 2) t1 h2)
      else
        (xX9_paintAll_109 N (a4 / 2) 0 h))
    else
      (cl (xX10_hasBit a3 a5 h) fun t3 h4 =>
      if t3 = 0 then
        (xX9_paintAll_84 N (xX9_paintAll_20 N n) a2 a3 a4 a5 h4)
      else
        (cl (xX6_openPipesOf N a5 a2 h4) fun t5 h6 =>
        lt (a4 + t5) fun v7 =>
        if (irem t5 2) ≠ (1 : Int32) then
          (xX9_paintAll_84 N (xX9_paintAll_20 N n) a2 a3 v7 a5 h6)
        else
          (ast h6 53 16 (h6.1 52 5) a5 fun h8 =>
          lt (up h8 52 5 ((h8.1 52 5) + 1)) fun h9 =>
          xX9_paintAll_84 N (xX9_paintAll_20 N n) a2 a3 v7 a5 h9)))
def xX9_paintAll (N : Nat) (a1 : Int32) (a2 : Int32) (h : HP) : Option (Int32 × HP) :=
  cl (xX3_measureFrom N a1 h) fun t1 h2 =>
  lt (up h2 52 5 0) fun h3 =>
  xX9_paintAll_20 N N a2 t1 0 0 h3
def xX9_goOn_53 (N : Nat) (c_X9_goOn : Int32 → Int32 → Int32 → HP → Option (Int32 × HP)) (h : HP) : Option (Int32 × HP) :=
  some (0, h)
def xX9_goOn_121 (N : Nat) (c_X9_goOn : Int32 → Int32 → Int32 → HP → Option (Int32 × HP)) (h : HP) : Option (Int32 × HP) :=
  some (0, h)
def xX9_goOn_70 (N : Nat) (c_X9_goOn : Int32 → Int32 → Int32 → HP → Option (Int32 × HP)) : Nat → Int32 → Int32 → Int32 → Int32 → HP → Option (Int32 × HP)
  | 0 => fun _ _ _ _ _ => none
  | n + 1 => fun a2 a3 a4 a5 h =>
    if (16 : Int32) ≤ a5 then
      (xX9_goOn_121 N c_X9_goOn h)
    else
      (if a4 = 0 then
        (xX9_goOn_121 N c_X9_goOn h)
      else
        (cl (xX10_lowest a4 h) fun t1 h2 =>
        lt (a4 &&& (a4 - 1)) fun v3 =>
        cl (c_X9_goOn t1 (a2 &&& ((1 <<< (t1 &&& 31)) ^^^ (-1))) (a3 + 1) h2) fun t4 h5 =>
        lt (a5 + 1) fun v6 =>
        (xX9_goOn_70 N c_X9_goOn n) a2 a3 v3 v6 h5))
def xX9_goOn_34 (N : Nat) (c_X9_goOn : Int32 → Int32 → Int32 → HP → Option (Int32 × HP)) (a1 : Int32) (a2 : Int32) (a3 : Int32) (h : HP) : Option (Int32 × HP) :=
  if (16 : Int32) ≤ a3 then
    (xX9_goOn_53 N c_X9_goOn h)
  else
    (cl (xJ6_bitCount_0f7a4 a2 h) fun t1 h2 =>
    if (h2.1 52 6) ≤ (a3 + t1) then
      (ald h2 46 16 a1 fun t3 =>
      lt (t3 &&& a2) fun v4 =>
      xX9_goOn_70 N c_X9_goOn N a2 a3 v4 0 h2)
    else
      (xX9_goOn_53 N c_X9_goOn h2))
def xX9_goOn_24 (N : Nat) (c_X9_goOn : Int32 → Int32 → Int32 → HP → Option (Int32 × HP)) (a1 : Int32) (a2 : Int32) (a3 : Int32) (h : HP) : Option (Int32 × HP) :=
  lt (up h 52 6 a3) fun h1 =>
  lt (up h1 52 7 a1) fun h2 =>
  xX9_goOn_34 N c_X9_goOn a1 a2 a3 h2
def xX9_goOn (N : Nat) (c_X9_goOn : Int32 → Int32 → Int32 → HP → Option (Int32 × HP)) (a1 : Int32) (a2 : Int32) (a3 : Int32) (h : HP) : Option (Int32 × HP) :=
  if (h.1 52 6) < a3 then
    (xX9_goOn_24 N c_X9_goOn a1 a2 a3 h)
  else
    (if a3 ≠ (h.1 52 6) then
      (xX9_goOn_34 N c_X9_goOn a1 a2 a3 h)
    else
      (if (h.1 52 7) ≤ a1 then
        (xX9_goOn_34 N c_X9_goOn a1 a2 a3 h)
      else
        (xX9_goOn_24 N c_X9_goOn a1 a2 a3 h)))
def rg1 (N : Nat) : Nat → Int32 → Int32 → Int32 → HP → Option (Int32 × HP)
  | 0 => fun _ _ _ _ => none
  | dp + 1 => xX9_goOn N (rg1 N dp)
def xr_X9_goOn (N dp : Nat) (a1 : Int32) (a2 : Int32) (a3 : Int32) (h : HP) : Option (Int32 × HP) := (rg1 N dp) a1 a2 a3 h
def xX9_goFar (N : Nat) (a1 : Int32) (h : HP) : Option (Int32 × HP) :=
  lt (up h 52 6 0) fun h1 =>
  lt (up h1 52 7 a1) fun h2 =>
  cl (xX3_measureFrom N a1 h2) fun t3 h4 =>
  cl (xr_X9_goOn N 60 a1 (t3 &&& ((1 <<< (a1 &&& 31)) ^^^ (-1))) 0 h4) fun t5 h6 =>
  some (0, h6)
def xX10_feed (N : Nat) (a1 : Int32) (a2 : Int32) (a3 : Int32) (a4 : Int32) (a5 : Int32) (h : HP) : Option (Int32 × HP) :=
  if ((h.1 1 1) + 20) ≤ (260 : Int32) then
    (cl (xX7_put N a1 h) fun t1 h2 =>
    cl (xX7_put N a2 h2) fun t3 h4 =>
    cl (xX7_put N a3 h4) fun t5 h6 =>
    cl (xX7_put N a4 h6) fun t7 h8 =>
    cl (xX7_put N a5 h8) fun t9 h10 =>
    some (h10.1 1 1, h10))
  else
    (some ((-1), h))
def xX10_law (N : Nat) (a1 : Int32) (h : HP) : Option (Int32 × HP) :=
  cl (xX7_gives a1 1 240 h) fun t1 h2 =>
  if t1 ≠ 0 then
    (cl (xX2_readFrom N h2) fun t3 h4 =>
    if t3 ≠ 0 then
      (cl (xX2_become h4) fun t5 h6 =>
      some (h6.1 13 7, h6))
    else
      (some (h4.1 1 4, h4)))
  else
    (some ((-1), h2))
def xX10_town (N : Nat) (a1 : Int32) (h : HP) : Option (Int32 × HP) :=
  cl (xX7_gives a1 1 160 h) fun t1 h2 =>
  if t1 ≠ 0 then
    (cl (xX6_readFrom N h2) fun t3 h4 =>
    if t3 ≠ 0 then
      (cl (xX6_become h4) fun t5 h6 =>
      cl (xX5_settle N (h6.1 3 4) (h6.1 3 5) h6) fun t7 h8 =>
      some (h8.1 3 5, h8))
    else
      (some (h4.1 1 4, h4)))
  else
    (some ((-1), h2))
def xX10_orders (N : Nat) (a1 : Int32) (h : HP) : Option (Int32 × HP) :=
  cl (xX7_gives a1 1 120 h) fun t1 h2 =>
  if t1 ≠ 0 then
    (cl (xX4_readFrom N h2) fun t3 h4 =>
    if t3 ≠ 0 then
      (cl (xX4_carryOut N h4) fun t5 h6 =>
      some (h6.1 27 3, h6))
    else
      (some (h4.1 1 4, h4)))
  else
    (some ((-1), h2))
def xX10_isSpan_16 (s0 : Int32) (h : HP) : Option (Int32 × HP) :=
  zok s0 (some (s0, h))
def xX10_isSpan_15 (h : HP) : Option (Int32 × HP) :=
  xX10_isSpan_16 0 h
def xX10_isSpan (a0 : Int32) (h : HP) : Option (Int32 × HP) :=
  if a0 < (1 : Int32) then
    (xX10_isSpan_15 h)
  else
    (if (100 : Int32) < a0 then
      (xX10_isSpan_15 h)
    else
      (xX10_isSpan_16 1 h))
def xX10_minutes_23 (N : Nat) (s0 : Int32) (h : HP) : Option (Int32 × HP) :=
  some (s0, h)
def xX10_minutes (N : Nat) (a1 : Int32) (h : HP) : Option (Int32 × HP) :=
  cl (xX10_isSpan a1 h) fun t1 h2 =>
  if t1 = 0 then
    (xX10_minutes_23 N (-1) h2)
  else
    (cl (xX8_pass N 31 a1 h2) fun t3 h4 =>
    xX10_minutes_23 N t3 h4)
def xX10_tried_62 (N : Nat) (h : HP) : Option (Int32 × HP) :=
  some ((-1), h)
def xX10_tried_156 (N : Nat) (s0 : Int32) (h : HP) : Option (Int32 × HP) :=
  some (s0, h)
def xX10_tried_64 (N : Nat) (a1 : Int32) (a2 : Int32) (a4 : Int32) (a5 : Int32) (h : HP) : Option (Int32 × HP) :=
  cl (xX5_become 39 h) fun t1 h2 =>
  cl (xX8_pass N 39 a1 h2) fun t3 h4 =>
  if a4 = 0 then
    (if a5 = 0 then
      (if a2 ≠ 0 then
        (if a2 ≠ (1 : Int32) then
          (cl (xX5_allSorrow N 39 h4) fun t5 h6 =>
          xX10_tried_156 N t5 h6)
        else
          (xX10_tried_156 N (h4.1 39 4) h4))
      else
        (xX10_tried_156 N t3 h4))
    else
      (ald h4 42 16 (a2 - 30) fun t7 =>
      some (t7, h4)))
  else
    (ald h4 40 16 (a2 - 10) fun t8 =>
    some (t8, h4))
def xX10_tried_14 (N : Nat) (a1 : Int32) (a2 : Int32) (s0 : Int32) (h : HP) : Option (Int32 × HP) :=
  cl (xX6_isTold (a2 - 10) h) fun t1 h2 =>
  cl (xX6_isTold (a2 - 30) h2) fun t3 h4 =>
  cl (xX10_isSpan a1 h4) fun t5 h6 =>
  if t5 = 0 then
    (xX10_tried_62 N h6)
  else
    (if s0 ≠ 0 then
      (xX10_tried_64 N a1 a2 t1 t3 h6)
    else
      (if t1 ≠ 0 then
        (xX10_tried_64 N a1 a2 t1 t3 h6)
      else
        (if t3 ≠ 0 then
          (xX10_tried_64 N a1 a2 t1 t3 h6)
        else
          (xX10_tried_62 N h6))))
def xX10_tried_13 (N : Nat) (a1 : Int32) (a2 : Int32) (h : HP) : Option (Int32 × HP) :=
  xX10_tried_14 N a1 a2 0 h
def xX10_tried (N : Nat) (a1 : Int32) (a2 : Int32) (h : HP) : Option (Int32 × HP) :=
  if a2 < 0 then
    (xX10_tried_13 N a1 a2 h)
  else
    (if (2 : Int32) < a2 then
      (xX10_tried_13 N a1 a2 h)
    else
      (xX10_tried_14 N a1 a2 1 h))
def xX10_cornerIs (N : Nat) (a1 : Int32) (a2 : Int32) (h : HP) : Option (Int32 × HP) :=
  cl (xX6_isTold a1 h) fun t1 h2 =>
  if t1 ≠ 0 then
    (if a2 = 0 then
      (ald h2 4 16 a1 fun t3 =>
      some (t3, h2))
    else if a2 = 1 then
      (ald h2 32 16 a1 fun t4 =>
      some (t4, h2))
    else if a2 = 2 then
      (ald h2 33 16 a1 fun t5 =>
      some (t5, h2))
    else if a2 = 3 then
      (ald h2 34 16 a1 fun t6 =>
      some (t6, h2))
    else if a2 = 4 then
      (cl (xX6_openPipesOf N a1 (h2.1 31 3) h2) fun t7 h8 =>
      some (t7, h8))
    else if a2 = 5 then
      (cl (xX6_besides N a1 (h2.1 31 3) h2) fun t9 h10 =>
      some (t9, h10))
    else (some ((-1), h2)))
  else
    (some ((-1), h2))
def xX10_pipeIs_15 (h : HP) : Option (Int32 × HP) :=
  some ((-1), h)
def xX10_pipeIs (a1 : Int32) (a2 : Int32) (h : HP) : Option (Int32 × HP) :=
  if a1 < 0 then
    (xX10_pipeIs_15 h)
  else
    (if a1 < (h.1 3 5) then
      (if a2 = 0 then
        (ald h 5 24 a1 fun t1 =>
        some (t1, h))
      else if a2 = 1 then
        (ald h 6 24 a1 fun t2 =>
        some (t2, h))
      else if a2 = 2 then
        (ald h 7 24 a1 fun t3 =>
        some (t3, h))
      else if a2 = 3 then
        (some (((h.1 31 3) >>> (a1 &&& 31)) &&& 1, h))
      else (some ((-1), h)))
    else
      (xX10_pipeIs_15 h))
def xX10_dry_18 (N : Nat) (h : HP) : Option (Int32 × HP) :=
  some ((-1), h)
def xX10_dry_33 (N : Nat) : Nat → Int32 → Int32 → Int32 → HP → Option (Int32 × HP)
  | 0 => fun _ _ _ _ => none
  | n + 1 => fun a1 a2 a3 h =>
    if a2 < a3 then
      (some ((-2), h))
    else
      (ald h 40 16 a1 fun t1 =>
      if t1 ≠ 0 then
        (cl (xX8_pass N 39 1 h) fun t2 h3 =>
        lt (a3 + 1) fun v4 =>
        (xX10_dry_33 N n) a1 a2 v4 h3)
      else
        (some (a3, h)))
def xX10_dry (N : Nat) (a1 : Int32) (a2 : Int32) (h : HP) : Option (Int32 × HP) :=
  cl (xX6_isTold a1 h) fun t1 h2 =>
  if t1 = 0 then
    (xX10_dry_18 N h2)
  else
    (cl (xX10_isSpan a2 h2) fun t3 h4 =>
    if t3 ≠ 0 then
      (cl (xX5_become 39 h4) fun t5 h6 =>
      xX10_dry_33 N N a1 a2 0 h6)
    else
      (xX10_dry_18 N h4))
def xX10_areTwo_32 (s0 : Int32) (h : HP) : Option (Int32 × HP) :=
  zok s0 (some (s0, h))
def xX10_areTwo_31 (h : HP) : Option (Int32 × HP) :=
  xX10_areTwo_32 0 h
def xX10_areTwo (a1 : Int32) (a2 : Int32) (h : HP) : Option (Int32 × HP) :=
  cl (xX6_isTold a1 h) fun t1 h2 =>
  if t1 = 0 then
    (xX10_areTwo_31 h2)
  else
    (cl (xX6_isTold a2 h2) fun t3 h4 =>
    if t3 = 0 then
      (xX10_areTwo_31 h4)
    else
      (if a1 = a2 then
        (xX10_areTwo_31 h4)
      else
        (xX10_areTwo_32 1 h4)))
def xX10_most_18 (N : Nat) (h : HP) : Option (Int32 × HP) :=
  some ((-1), h)
def xX10_most_55 (N : Nat) (s0 : Int32) (h : HP) : Option (Int32 × HP) :=
  some (s0, h)
def xX10_most (N : Nat) (a1 : Int32) (a2 : Int32) (a3 : Int32) (h : HP) : Option (Int32 × HP) :=
  cl (xX10_areTwo a1 a2 h) fun t1 h2 =>
  if t1 = 0 then
    (xX10_most_18 N h2)
  else
    (if a3 < 0 then
      (xX10_most_18 N h2)
    else
      (if a3 ≤ (1 : Int32) then
        (cl (xX1_push N a1 a2 (h2.1 31 3) 0 h2) fun t3 h4 =>
        if a3 ≠ 0 then
          (xX10_most_55 N (h4.1 49 3) h4)
        else
          (xX10_most_55 N t3 h4))
      else
        (xX10_most_18 N h2)))
def xX10_cut_30 (N : Nat) (s0 : Int32) (h : HP) : Option (Int32 × HP) :=
  some (s0, h)
def xX10_cut (N : Nat) (a1 : Int32) (a2 : Int32) (h : HP) : Option (Int32 × HP) :=
  cl (xX10_areTwo a1 a2 h) fun t1 h2 =>
  if t1 = 0 then
    (xX10_cut_30 N (-1) h2)
  else
    (cl (xX1_push N a1 a2 (h2.1 31 3) 1 h2) fun t3 h4 =>
    xX10_cut_30 N t3 h4)
def xX10_widest (N : Nat) (a1 : Int32) (a2 : Int32) (h : HP) : Option (Int32 × HP) :=
  cl (xX10_areTwo a1 a2 h) fun t1 h2 =>
  if t1 ≠ 0 then
    (cl (xX3_look N (h2.1 31 3) h2) fun t3 h4 =>
    cl (xX3_widestWay N a1 a2 h4) fun t5 h6 =>
    some (t5, h6))
  else
    (some ((-1), h2))
def xX10_steps_22 (N : Nat) (h : HP) : Option (Int32 × HP) :=
  some ((-1), h)
def xX10_steps (N : Nat) (a1 : Int32) (a2 : Int32) (h : HP) : Option (Int32 × HP) :=
  cl (xX6_isTold a1 h) fun t1 h2 =>
  if t1 = 0 then
    (xX10_steps_22 N h2)
  else
    (cl (xX6_isTold a2 h2) fun t3 h4 =>
    if t3 ≠ 0 then
      (cl (xX3_look N (h4.1 31 3) h4) fun t5 h6 =>
      cl (xX3_stepsBetween N a1 a2 h6) fun t7 h8 =>
      some (t7, h8))
    else
      (xX10_steps_22 N h4))
def xX10_bridges_9 (N : Nat) (h : HP) : Option (Int32 × HP) :=
  some ((-1), h)
def xX10_bridges_48 (N : Nat) (s0 : Int32) (h : HP) : Option (Int32 × HP) :=
  some (s0, h)
def xX10_bridges (N : Nat) (a1 : Int32) (h : HP) : Option (Int32 × HP) :=
  if a1 < 0 then
    (xX10_bridges_9 N h)
  else
    (if a1 ≤ (1 : Int32) then
      (cl (xX3_bridgeBits N (h.1 31 3) h) fun t1 h2 =>
      if a1 ≠ 0 then
        (if t1 ≠ 0 then
          (cl (xX10_lowest t1 h2) fun t3 h4 =>
          xX10_bridges_48 N t3 h4)
        else
          (xX10_bridges_48 N (-2) h2))
      else
        (cl (xJ6_bitCount_0f7a4 t1 h2) fun t5 h6 =>
        some (t5, h6)))
    else
      (xX10_bridges_9 N h))
def xX10_brigades_19 (N : Nat) (h : HP) : Option (Int32 × HP) :=
  some ((-1), h)
def xX10_brigades_66 (N : Nat) (s0 : Int32) (h : HP) : Option (Int32 × HP) :=
  some (s0, h)
def xX10_brigades (N : Nat) (a1 : Int32) (a2 : Int32) (h : HP) : Option (Int32 × HP) :=
  if a1 < (1 : Int32) then
    (xX10_brigades_19 N h)
  else
    (if (5 : Int32) < a1 then
      (xX10_brigades_19 N h)
    else
      (if a2 < 0 then
        (xX10_brigades_19 N h)
      else
        (if a2 ≤ (1 : Int32) then
          (cl (xX3_look N (h.1 31 3) h) fun t1 h2 =>
          cl (xX3_bestStand N a1 h2) fun t3 h4 =>
          if 0 ≤ t3 then
            (if a2 ≠ 0 then
              (xX10_brigades_66 N (t3 &&& 65535) h4)
            else
              (xX10_brigades_66 N (t3 >>> (16 &&& 31)) h4))
          else
            (some ((-2), h4)))
        else
          (xX10_brigades_19 N h))))
def xX10_painted (N : Nat) (a1 : Int32) (h : HP) : Option (Int32 × HP) :=
  cl (xX6_isTold a1 h) fun t1 h2 =>
  if t1 ≠ 0 then
    (cl (xX3_look N (h2.1 31 3) h2) fun t3 h4 =>
    cl (xX9_paintAll N a1 (h4.1 31 3) h4) fun t5 h6 =>
    some (t5, h6))
  else
    (some ((-1), h2))
def xX10_keptOpen (N : Nat) (h : HP) : Option (Int32 × HP) :=
  cl (xX3_widthToHold N (h.1 31 3) h) fun t1 h2 =>
  some (t1, h2)
def xX10_farthest_9 (N : Nat) (h : HP) : Option (Int32 × HP) :=
  some ((-1), h)
def xX10_farthest_75 (N : Nat) (s0 : Int32) (h : HP) : Option (Int32 × HP) :=
  some (s0, h)
def xX10_farthest (N : Nat) (a1 : Int32) (h : HP) : Option (Int32 × HP) :=
  if a1 < 0 then
    (xX10_farthest_9 N h)
  else
    (if a1 ≤ (2 : Int32) then
      (if (h.1 3 4) ≠ 0 then
        (cl (xX3_look N (h.1 31 3) h) fun t1 h2 =>
        cl (xX3_farthestPair N h2) fun t3 h4 =>
        if a1 ≠ 0 then
          (if a1 ≠ (1 : Int32) then
            (xX10_farthest_75 N (t3 &&& 15) h4)
          else
            (xX10_farthest_75 N ((t3 >>> (4 &&& 31)) &&& 15) h4))
        else
          (xX10_farthest_75 N (t3 >>> (8 &&& 31)) h4))
      else
        (some ((-2), h)))
    else
      (xX10_farthest_9 N h))
def xX10_ring_30 (N : Nat) (s0 : Int32) (h : HP) : Option (Int32 × HP) :=
  some (s0, h)
def xX10_ring (N : Nat) (a1 : Int32) (h : HP) : Option (Int32 × HP) :=
  cl (xX6_isTold a1 h) fun t1 h2 =>
  if t1 = 0 then
    (xX10_ring_30 N (-1) h2)
  else
    (cl (xX3_leastRing N a1 (h2.1 31 3) h2) fun t3 h4 =>
    xX10_ring_30 N t3 h4)
def xX10_highest_9 (N : Nat) (h : HP) : Option (Int32 × HP) :=
  some ((-1), h)
def xX10_highest_89 (N : Nat) (K20 : Int32 → Int32 → Int32 → Int32 → HP → Option (Int32 × HP)) (a1 : Int32) (a2 : Int32) (a3 : Int32) (a4 : Int32) (h : HP) : Option (Int32 × HP) :=
  lt (a4 + 1) fun v1 =>
  K20 a1 a2 a3 v1 h
def xX10_highest_104 (N : Nat) (s0 : Int32) (h : HP) : Option (Int32 × HP) :=
  some (s0, h)
def xX10_highest_20 (N : Nat) : Nat → Int32 → Int32 → Int32 → Int32 → HP → Option (Int32 × HP)
  | 0 => fun _ _ _ _ _ => none
  | n + 1 => fun a1 a2 a3 a4 h =>
    if (16 : Int32) ≤ a4 then
      (if a1 ≠ 0 then
        (xX10_highest_104 N a3 h)
      else
        (xX10_highest_104 N a2 h))
    else
      (cl (xX6_isTold a4 h) fun t1 h2 =>
      if t1 = 0 then
        (xX10_highest_89 N (xX10_highest_20 N n) a1 a2 a3 a4 h2)
      else
        (ald h2 4 16 a4 fun t3 =>
        ald h2 32 16 a4 fun t4 =>
        if (t3 + t4) ≤ a3 then
          (xX10_highest_89 N (xX10_highest_20 N n) a1 a2 a3 a4 h2)
        else
          (ald h2 4 16 a4 fun t5 =>
          ald h2 32 16 a4 fun t6 =>
          lt (t5 + t6) fun v7 =>
          xX10_highest_89 N (xX10_highest_20 N n) a1 a4 v7 a4 h2)))
def xX10_highest (N : Nat) (a1 : Int32) (h : HP) : Option (Int32 × HP) :=
  if a1 < 0 then
    (xX10_highest_9 N h)
  else
    (if a1 ≤ (1 : Int32) then
      (xX10_highest_20 N N a1 (-2) (-2) 0 h)
    else
      (xX10_highest_9 N h))
def xX10_longest_20 (N : Nat) (h : HP) : Option (Int32 × HP) :=
  some ((-1), h)
def xX10_longest_65 (N : Nat) (s0 : Int32) (h : HP) : Option (Int32 × HP) :=
  some (s0, h)
def xX10_longest (N : Nat) (a1 : Int32) (a2 : Int32) (h : HP) : Option (Int32 × HP) :=
  cl (xX6_isTold a1 h) fun t1 h2 =>
  if t1 = 0 then
    (xX10_longest_20 N h2)
  else
    (if a2 < 0 then
      (xX10_longest_20 N h2)
    else
      (if a2 ≤ (1 : Int32) then
        (cl (xX3_look N (h2.1 31 3) h2) fun t3 h4 =>
        cl (xX9_goFar N a1 h4) fun t5 h6 =>
        if a2 ≠ 0 then
          (xX10_longest_65 N (h6.1 52 7) h6)
        else
          (xX10_longest_65 N (h6.1 52 6) h6))
      else
        (xX10_longest_20 N h2)))
def xX10_byEighths_46 (N : Nat) (h : HP) : Option (Int32 × HP) :=
  some ((-1), h)
def xX10_byEighths_95 (N : Nat) (s0 : Int32) (h : HP) : Option (Int32 × HP) :=
  some (s0, h)
def xX10_byEighths_25 (N : Nat) (a1 : Int32) (a2 : Int32) (a3 : Int32) (s0 : Int32) (h : HP) : Option (Int32 × HP) :=
  if s0 = 0 then
    (xX10_byEighths_46 N h)
  else
    (cl (xX7_gives a1 1 8 h) fun t1 h2 =>
    if t1 ≠ 0 then
      (cl (xX0_reckon N a1 a2 h2) fun t3 h4 =>
      if a3 ≠ 0 then
        (if (h4.1 56 3) ≠ 0 then
          (xX10_byEighths_95 N (h4.1 56 4) h4)
        else
          (xX10_byEighths_95 N (-2) h4))
      else
        (some (h4.1 56 3, h4)))
    else
      (xX10_byEighths_46 N h2))
def xX10_byEighths_24 (N : Nat) (a1 : Int32) (a2 : Int32) (a3 : Int32) (h : HP) : Option (Int32 × HP) :=
  xX10_byEighths_25 N a1 a2 a3 0 h
def xX10_byEighths (N : Nat) (a1 : Int32) (a2 : Int32) (a3 : Int32) (h : HP) : Option (Int32 × HP) :=
  if a2 < 0 then
    (xX10_byEighths_24 N a1 a2 a3 h)
  else
    (if (16320 : Int32) < a2 then
      (xX10_byEighths_24 N a1 a2 a3 h)
    else
      (if a3 < 0 then
        (xX10_byEighths_24 N a1 a2 a3 h)
      else
        (if (1 : Int32) < a3 then
          (xX10_byEighths_24 N a1 a2 a3 h)
        else
          (xX10_byEighths_25 N a1 a2 a3 1 h))))
def xX10_readings_36 (N : Nat) (h : HP) : Option (Int32 × HP) :=
  some ((-1), h)
def xX10_readings_138 (N : Nat) (K56 : Int32 → Int32 → Int32 → Int32 → Int32 → Int32 → Int32 → HP → Option (Int32 × HP)) (a1 : Int32) (a3 : Int32) (a4 : Int32) (a5 : Int32) (a6 : Int32) (a7 : Int32) (a8 : Int32) (h : HP) : Option (Int32 × HP) :=
  lt (a8 + 1) fun v1 =>
  K56 a1 a3 a4 a5 a6 a7 v1 h
def xX10_readings_123 (N : Nat) (K56 : Int32 → Int32 → Int32 → Int32 → Int32 → Int32 → Int32 → HP → Option (Int32 × HP)) (a1 : Int32) (a3 : Int32) (a4 : Int32) (a5 : Int32) (a6 : Int32) (a7 : Int32) (a8 : Int32) (a9 : Int32) (h : HP) : Option (Int32 × HP) :=
  if a9 ≤ a5 then
    (xX10_readings_138 N K56 a1 a3 a4 a5 a6 a7 a8 h)
  else
    (xX10_readings_138 N K56 a1 a3 a8 a9 a6 a7 a8 h)
def xX10_readings_164 (N : Nat) (s0 : Int32) (h : HP) : Option (Int32 × HP) :=
  some (s0, h)
def xX10_readings_56 (N : Nat) : Nat → Int32 → Int32 → Int32 → Int32 → Int32 → Int32 → Int32 → HP → Option (Int32 × HP)
  | 0 => fun _ _ _ _ _ _ _ _ => none
  | n + 1 => fun a1 a3 a4 a5 a6 a7 a8 h =>
    if (16 : Int32) ≤ a8 then
      (if a1 ≠ 0 then
        (if a1 ≠ (1 : Int32) then
          (xX10_readings_164 N a6 h)
        else
          (xX10_readings_164 N a4 h))
      else
        (xX10_readings_164 N a3 h))
    else
      (cl (xX6_isTold a8 h) fun t1 h2 =>
      if t1 ≠ 0 then
        (cl (xX7_byteAt a7 h2) fun t3 h4 =>
        cl (xX7_byteAt (a7 + 1) h4) fun t5 h6 =>
        lt (t3 - t5) fun v7 =>
        lt (a7 + 2) fun v8 =>
        if v7 ≤ 0 then
          (xX10_readings_123 N (xX10_readings_56 N n) a1 a3 a4 a5 a6 v8 a8 v7 h6)
        else
          (lt (a3 ||| (1 <<< (a8 &&& 31))) fun v9 =>
          lt (a6 + v7) fun v10 =>
          xX10_readings_123 N (xX10_readings_56 N n) a1 v9 a4 a5 v10 v8 a8 v7 h6))
      else
        (xX10_readings_138 N (xX10_readings_56 N n) a1 a3 a4 a5 a6 a7 a8 h2))
def xX10_readings (N : Nat) (a1 : Int32) (h : HP) : Option (Int32 × HP) :=
  cl (xJ6_bitCount_0f7a4 (h.1 3 4) h) fun t1 h2 =>
  lt (2 * t1) fun v3 =>
  if a1 < 0 then
    (xX10_readings_36 N h2)
  else
    (if (2 : Int32) < a1 then
      (xX10_readings_36 N h2)
    else
      (cl (xX7_gives v3 2 32 h2) fun t4 h5 =>
      if t4 ≠ 0 then
        (xX10_readings_56 N N a1 0 (-2) 0 0 0 0 h5)
      else
        (xX10_readings_36 N h5)))
def xX10_hose_77 (N : Nat) (h : HP) : Option (Int32 × HP) :=
  some ((-1), h)
def xX10_hose_174 (N : Nat) (K127 : Int32 → Int32 → Int32 → Int32 → Int32 → Int32 → Int32 → Int32 → HP → Option (Int32 × HP)) (a1 : Int32) (a2 : Int32) (a3 : Int32) (a6 : Int32) (a7 : Int32) (a8 : Int32) (a9 : Int32) (a10 : Int32) (h : HP) : Option (Int32 × HP) :=
  lt (a10 + 1) fun v1 =>
  K127 a1 a2 a3 a6 a7 a8 a9 v1 h
def xX10_hose_127 (N : Nat) (K93 : Int32 → Int32 → Int32 → Int32 → Int32 → HP → Option (Int32 × HP)) : Nat → Int32 → Int32 → Int32 → Int32 → Int32 → Int32 → Int32 → Int32 → HP → Option (Int32 × HP)
  | 0 => fun _ _ _ _ _ _ _ _ _ => none
  | n + 1 => fun a1 a2 a3 a6 a7 a8 a9 a10 h =>
    if a2 ≤ a10 then
      (if a7 ≠ a3 then
        (ast h 58 6 a8 a9 fun h1 =>
        lt (imx a6 a9) fun v2 =>
        lt (a7 + 1) fun v3 =>
        K93 a1 a2 a3 v2 v3 h1)
      else
        (some (a8, h)))
    else
      (ald h 58 6 a10 fun t4 =>
      cl (xX7_byteAt ((a7 * a2) + a10) h) fun t5 h6 =>
      lt (t4 + (2 * t5)) fun v7 =>
      if a9 ≤ v7 then
        (xX10_hose_174 N (xX10_hose_127 N K93 n) a1 a2 a3 a6 a7 a8 a9 a10 h6)
      else
        (xX10_hose_174 N (xX10_hose_127 N K93 n) a1 a2 a3 a6 a7 a10 v7 a10 h6))
def xX10_hose_93 (N : Nat) : Nat → Int32 → Int32 → Int32 → Int32 → Int32 → HP → Option (Int32 × HP)
  | 0 => fun _ _ _ _ _ _ => none
  | n + 1 => fun a1 a2 a3 a6 a7 h =>
    if a1 ≤ a7 then
      (some (a6, h))
    else
      (ald h 58 6 0 fun t1 =>
      cl (xX7_byteAt (a7 * a2) h) fun t2 h3 =>
      lt (t1 + (2 * t2)) fun v4 =>
      xX10_hose_127 N (xX10_hose_93 N n) N a1 a2 a3 a6 a7 0 v4 1 h3)
def xX10_hose_49 (N : Nat) (a1 : Int32) (a2 : Int32) (a3 : Int32) (a4 : Int32) (s0 : Int32) (h : HP) : Option (Int32 × HP) :=
  if a4 = 0 then
    (xX10_hose_77 N h)
  else
    (if s0 = 0 then
      (xX10_hose_77 N h)
    else
      (cl (xX7_gives (a1 * a2) 1 72 h) fun t1 h2 =>
      if t1 ≠ 0 then
        (cl (xJ7_fill_53178 N 6 58 0 h2) fun t3 h4 =>
        xX10_hose_93 N N a1 a2 a3 0 0 h4)
      else
        (xX10_hose_77 N h2)))
def xX10_hose_44 (N : Nat) (a1 : Int32) (a2 : Int32) (a3 : Int32) (a4 : Int32) (h : HP) : Option (Int32 × HP) :=
  xX10_hose_49 N a1 a2 a3 a4 1 h
def xX10_hose_48 (N : Nat) (a1 : Int32) (a2 : Int32) (a3 : Int32) (a4 : Int32) (h : HP) : Option (Int32 × HP) :=
  xX10_hose_49 N a1 a2 a3 a4 0 h
def xX10_hose_27 (N : Nat) (a1 : Int32) (a2 : Int32) (a3 : Int32) (s0 : Int32) (h : HP) : Option (Int32 × HP) :=
  if a3 = (100 : Int32) then
    (xX10_hose_44 N a1 a2 a3 s0 h)
  else
    (if a3 < 0 then
      (xX10_hose_48 N a1 a2 a3 s0 h)
    else
      (if a1 ≤ a3 then
        (xX10_hose_48 N a1 a2 a3 s0 h)
      else
        (xX10_hose_44 N a1 a2 a3 s0 h)))
def xX10_hose_26 (N : Nat) (a1 : Int32) (a2 : Int32) (a3 : Int32) (h : HP) : Option (Int32 × HP) :=
  xX10_hose_27 N a1 a2 a3 0 h
def xX10_hose (N : Nat) (a1 : Int32) (a2 : Int32) (a3 : Int32) (h : HP) : Option (Int32 × HP) :=
  if a1 < (1 : Int32) then
    (xX10_hose_26 N a1 a2 a3 h)
  else
    (if (12 : Int32) < a1 then
      (xX10_hose_26 N a1 a2 a3 h)
    else
      (if a2 < (1 : Int32) then
        (xX10_hose_26 N a1 a2 a3 h)
      else
        (if (6 : Int32) < a2 then
          (xX10_hose_26 N a1 a2 a3 h)
        else
          (xX10_hose_27 N a1 a2 a3 1 h))))
def xX10_seed_11 (h : HP) : Option (Int32 × HP) :=
  zok 0 (some (0, h))
def xX10_seed (a1 : Int32) (h : HP) : Option (Int32 × HP) :=
  if a1 < 0 then
    (xX10_seed_11 h)
  else
    (if a1 < (65536 : Int32) then
      (lt (up h 31 6 a1) fun h1 =>
      zok 1 (some (1, h1)))
    else
      (xX10_seed_11 h))
def xX10_keep (h : HP) : Option (Int32 × HP) :=
  cl (xX5_become 35 h) fun t1 h2 =>
  zok 1 <| lt (up h2 0 15 1) fun h3 =>
  some (h3.1 31 5, h3)
def xX10_undo_18 (N : Nat) (h : HP) : Option (Int32 × HP) :=
  zok (h.1 0 15) (some (h.1 0 15, h))
def xX10_undo (N : Nat) (h : HP) : Option (Int32 × HP) :=
  if (h.1 0 15) = 0 then
    (xX10_undo_18 N h)
  else
    (cl (xX5_comeBackTo N h) fun t1 h2 =>
    xX10_undo_18 N h2)
def xX10_check_50 (N : Nat) (K19 : Int32 → Int32 → HP → Option (Int32 × HP)) (a1 : Int32) (a2 : Int32) (s0 : Int32) (h : HP) : Option (Int32 × HP) :=
  cl (xX7_byteAt a2 h) fun t1 h2 =>
  if t1 = s0 then
    (lt (a2 + 1) fun v3 =>
    K19 a1 v3 h2)
  else
    (some (a2, h2))
def xX10_check_19 (N : Nat) : Nat → Int32 → Int32 → HP → Option (Int32 × HP)
  | 0 => fun _ _ _ => none
  | n + 1 => fun a1 a2 h =>
    if a1 ≤ a2 then
      (some ((-1), h))
    else
      (cl (xX6_isTold a2 h) fun t1 h2 =>
      if t1 = 0 then
        (xX10_check_50 N (xX10_check_19 N n) a1 a2 255 h2)
      else
        (ald h2 33 16 a2 fun t3 =>
        xX10_check_50 N (xX10_check_19 N n) a1 a2 t3 h2))
def xX10_check (N : Nat) (a1 : Int32) (h : HP) : Option (Int32 × HP) :=
  cl (xX7_gives a1 0 16 h) fun t1 h2 =>
  if t1 ≠ 0 then
    (xX10_check_19 N N a1 0 h2)
  else
    (some ((-2), h2))
def xX10_count (N : Nat) (a1 : Int32) (h : HP) : Option (Int32 × HP) :=
  if a1 = 0 then
    (some (h.1 31 5, h))
  else if a1 = 1 then
    (some (h.1 3 4, h))
  else if a1 = 2 then
    (some (h.1 3 5, h))
  else if a1 = 3 then
    (cl (xJ6_bitCount_0f7a4 (h.1 31 3) h) fun t1 h2 =>
    some (t1, h2))
  else if a1 = 4 then
    (some (h.1 31 4, h))
  else if a1 = 5 then
    (some (h.1 13 7, h))
  else if a1 = 6 then
    (some (h.1 1 1, h))
  else if a1 = 7 then
    (some (h.1 31 6, h))
  else if a1 = 8 then
    (cl (xX5_allSorrow N 31 h) fun t3 h4 =>
    some (t3, h4))
  else if a1 = 9 then
    (cl (xX5_allWept N h) fun t5 h6 =>
    some (t5, h6))
  else if a1 = 10 then
    (cl (xX3_groups N (h.1 31 3) h) fun t7 h8 =>
    some (t7, h8))
  else (some ((-1), h))
