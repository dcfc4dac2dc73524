/-! BoxSpider.axisOf, method 11 -/
def f_Box_axisOf (sg : Hp) (x0 : Int32) : Option (Int32 × Hp) :=
  some (((x0 + (1 : Int32)) - (x0 + (1 : Int32)) / (3 : Int32) * (3 : Int32)), sg)
/-! BoxSpider$Spot.set, method 14 -/
def f_Spot_set (sg : Hp) (a0 : Nat) (a1 : Nat) (x2 : Int32) (x3 : Int32) (x4 : Int32) : Option (Hp) :=
  (some (w2 sg (rt a0 0) 0 x4)).bind fun s1 =>
    (some (w2 s1 (rt a0 0) 1 ((s1 a1 0) - x4))).bind fun s2 =>
      (some (w2 s2 (rt a0 0) 2 x2)).bind fun s3 =>
        (some (w2 s3 (rt a0 0) 3 ((s3 a1 1) - x2))).bind fun s4 =>
          (some (w2 s4 (rt a0 0) 4 x3)).bind fun s5 =>
            (some (w2 s5 (rt a0 0) 5 ((s5 a1 2) - x3))).bind fun s6 =>
              some s6
/-! BoxSpider$Spot.isOnBox, method 15 -/
def f_Spot_isOnBox_36 (k4 : Hp → Nat → Int32 → Int32 → Option (Int32 × Hp)) (sg : Hp) (a0 : Nat) (x2 : Int32) (xs0 : Int32) (xs1 : Int32) : Option (Int32 × Hp) :=
  k4 sg a0 (xs0 ||| xs1) (x2 + (1 : Int32))
def f_Spot_isOnBox_4  : Nat → Hp → Nat → Int32 → Int32 → Option (Int32 × Hp)
  | 0, _, _, _, _ => none
  | n + 1, sg, a0, x1, x2 =>
    if (6 : Int32) ≤ x2 then
      if x1 = 0 ∨ x1 = 1 then some (x1, sg) else none
    else
      if inb x2 6 = true then
        if (0 : Int32) ≤ (sg (rt a0 0) (x2).toNatClampNeg) then
          if inb x2 6 = true then
            if (sg (rt a0 0) (x2).toNatClampNeg) = (0 : Int32) then
              f_Spot_isOnBox_36 (f_Spot_isOnBox_4 n) sg a0 x2 x1 (1 : Int32)
            else
              f_Spot_isOnBox_36 (f_Spot_isOnBox_4 n) sg a0 x2 x1 (0 : Int32)
          else none
        else
          some ((0 : Int32), sg)
      else none
def f_Spot_isOnBox (sg : Hp) (a0 : Nat) : Option (Int32 × Hp) :=
  f_Spot_isOnBox_4  LF sg a0 (0 : Int32) (0 : Int32)
/-! BoxSpider$Room.holds, method 13 -/
def f_Room_holds (sg : Hp) (x1 : Int32) (x2 : Int32) (x3 : Int32) : Option (Int32 × Hp) :=
  (f_Spot_set sg 7 2 x1 x2 x3).bind fun y1 =>
    (f_Spot_isOnBox y1 7).bind fun y2 =>
      if y2.1 = 0 ∨ y2.1 = 1 then some (y2.1, y2.2) else none
/-! BoxSpider$Room.move, method 16 -/
def f_Room_move (sg : Hp) (x1 : Int32) (x2 : Int32) (x3 : Int32) (x4 : Int32) : Option (Hp) :=
  if inb x1 8 = true then
    (some (w2 sg 3 (x1).toNatClampNeg x2)).bind fun s2 =>
      if inb x1 8 = true then
        (some (w2 s2 4 (x1).toNatClampNeg x3)).bind fun s4 =>
          if inb x1 8 = true then
            (some (w2 s4 5 (x1).toNatClampNeg x4)).bind fun s6 =>
              (some (w2 s6 1 6 ((s6 1 6) + (1 : Int32)))).bind fun s7 =>
                some s7
          else none
      else none
  else none
/-! BoxSpider$Room.stretch, method 12 -/
def f_Room_stretch_61 (k17 : Hp → Int32 → Int32 → Option (Int32 × Hp)) (sg : Hp) (x3 : Int32) (x4 : Int32) : Option (Int32 × Hp) :=
  k17 sg x3 (x4 + (1 : Int32))
def f_Room_stretch_17  : Nat → Hp → Int32 → Int32 → Option (Int32 × Hp)
  | 0, _, _, _ => none
  | n + 1, sg, x3, x4 =>
    if (8 : Int32) ≤ x4 then
      (some (w2 sg 1 6 ((sg 1 6) + (1 : Int32)))).bind fun s4 =>
        some (x3, s4)
    else
      if inb x4 8 = true then
        if inb x4 8 = true then
          if inb x4 8 = true then
            (f_Room_holds sg (sg 3 (x4).toNatClampNeg) (sg 4 (x4).toNatClampNeg) (sg 5 (x4).toNatClampNeg)).bind fun y8 =>
              if y8.1 = (0 : Int32) then
                (f_Room_move y8.2 x4 (0 : Int32) (0 : Int32) (0 : Int32)).bind fun y9 =>
                  f_Room_stretch_61 (f_Room_stretch_17 n) y9 x3 x4
              else
                f_Room_stretch_61 (f_Room_stretch_17 n) y8.2 x3 x4
          else none
        else none
      else none
def f_Room_stretch (sg : Hp) (x1 : Int32) (x2 : Int32) : Option (Int32 × Hp) :=
  if inb x1 3 = true then
    if inb x1 3 = true then
      (some (w2 sg 2 (x1).toNatClampNeg x2)).bind fun s3 =>
        f_Room_stretch_17  LF s3 (sg 2 (x1).toNatClampNeg) (0 : Int32)
    else none
  else none
/-! BoxSpider.side, method 10 -/
def f_Box_side (sg : Hp) (x1 : Int32) (x2 : Int32) : Option (Int32 × Hp) :=
  if x1 < (0 : Int32) then
    some ((-2 : Int32), sg)
  else
    if (3 : Int32) ≤ x1 then
      some ((-2 : Int32), sg)
    else
      if x2 < (1 : Int32) then
        some ((-2 : Int32), sg)
      else
        if x2 ≤ (30 : Int32) then
          (f_Box_axisOf sg x1).bind fun y1 =>
            (f_Room_stretch y1.2 y1.1 x2).bind fun y2 =>
              some (y2.1, y2.2)
        else
          some ((-2 : Int32), sg)
/-! BoxSpiderModel.in, method 101 -/
def f_Mod_in (sg : Hp) (l0 : Int64) (l2 : Int64) (l4 : Int64) : Option (Int32 × Hp) :=
  if (lg_cmp l0 l2) < (0 : Int32) then
    some ((0 : Int32), sg)
  else
    if (0 : Int32) < (lg_cmp l0 l4) then
      some ((0 : Int32), sg)
    else
      some ((1 : Int32), sg)
/-! BoxSpiderModel.axisOf, method 113 -/
def f_Mod_axisOf (sg : Hp) (x0 : Int32) : Option (Int32 × Hp) :=
  if (2 : Int32) ≤ x0 then
    if (4 : Int32) ≤ x0 then
      some ((1 : Int32), sg)
    else
      some ((0 : Int32), sg)
  else
    some ((2 : Int32), sg)
/-! BoxSpiderModel.liesOn, method 112 -/
def f_Mod_liesOn_48  (sg : Hp) (xs0 : Int32) (xs1 : Int32) : Option (Int32 × Hp) :=
  if xs0 = xs1 then
    some ((1 : Int32), sg)
  else
    some ((0 : Int32), sg)
def f_Mod_liesOn_27  (sg : Hp) (x1 : Int32) (x5 : Int32) (xs0 : Int32) : Option (Int32 × Hp) :=
  if (x1 - x1 / (2 : Int32) * (2 : Int32)) = (0 : Int32) then
    f_Mod_liesOn_48  sg xs0 (0 : Int32)
  else
    if inb x5 3 = true then
      f_Mod_liesOn_48  sg xs0 (sg 51 (x5).toNatClampNeg)
    else none
def f_Mod_liesOn (sg : Hp) (x1 : Int32) (x2 : Int32) (x3 : Int32) (x4 : Int32) : Option (Int32 × Hp) :=
  (f_Mod_axisOf sg x1).bind fun y1 =>
    if y1.1 = (0 : Int32) then
      f_Mod_liesOn_27  y1.2 x1 y1.1 x2
    else
      if y1.1 = (1 : Int32) then
        f_Mod_liesOn_27  y1.2 x1 y1.1 x3
      else
        f_Mod_liesOn_27  y1.2 x1 y1.1 x4
/-! BoxSpiderModel.isOnBox, method 111 -/
def f_Mod_isOnBox_90 (k61 : Hp → Int32 → Int32 → Int32 → Int32 → Int32 → Int32 → Option (Int32 × Hp)) (sg : Hp) (x1 : Int32) (x2 : Int32) (x3 : Int32) (x4 : Int32) (x6 : Int32) (xs0 : Int32) : Option (Int32 × Hp) :=
  k61 sg x1 x2 x3 x4 xs0 (x6 + (1 : Int32))
def f_Mod_isOnBox_85 (k61 : Hp → Int32 → Int32 → Int32 → Int32 → Int32 → Int32 → Option (Int32 × Hp)) (sg : Hp) (x1 : Int32) (x2 : Int32) (x3 : Int32) (x4 : Int32) (x6 : Int32) : Option (Int32 × Hp) :=
  f_Mod_isOnBox_90 k61 sg x1 x2 x3 x4 x6 (1 : Int32)
def f_Mod_isOnBox_61  : Nat → Hp → Int32 → Int32 → Int32 → Int32 → Int32 → Int32 → Option (Int32 × Hp)
  | 0, _, _, _, _, _, _, _ => none
  | n + 1, sg, x1, x2, x3, x4, x5, x6 =>
    if (6 : Int32) ≤ x6 then
      if x4 = (0 : Int32) then
        some ((0 : Int32), sg)
      else
        if x5 = (0 : Int32) then
          some ((0 : Int32), sg)
        else
          some ((1 : Int32), sg)
    else
      if x5 = (0 : Int32) then
        (f_Mod_liesOn sg x6 x1 x2 x3).bind fun y2 =>
          if y2.1 = (0 : Int32) then
            f_Mod_isOnBox_90 (f_Mod_isOnBox_61 n) y2.2 x1 x2 x3 x4 x6 (0 : Int32)
          else
            f_Mod_isOnBox_85 (f_Mod_isOnBox_61 n) y2.2 x1 x2 x3 x4 x6
      else
        f_Mod_isOnBox_85 (f_Mod_isOnBox_61 n) sg x1 x2 x3 x4 x6
def f_Mod_isOnBox_53  (sg : Hp) (x1 : Int32) (x2 : Int32) (x3 : Int32) (xs0 : Int32) : Option (Int32 × Hp) :=
  f_Mod_isOnBox_61  LF sg x1 x2 x3 xs0 (0 : Int32) (0 : Int32)
def f_Mod_isOnBox_52  (sg : Hp) (x1 : Int32) (x2 : Int32) (x3 : Int32) : Option (Int32 × Hp) :=
  f_Mod_isOnBox_53  sg x1 x2 x3 (0 : Int32)
def f_Mod_isOnBox (sg : Hp) (x1 : Int32) (x2 : Int32) (x3 : Int32) : Option (Int32 × Hp) :=
  (f_Mod_in sg (x1).toInt64 (0 : Int64) ((sg 51 0)).toInt64).bind fun y1 =>
    if y1.1 = (0 : Int32) then
      f_Mod_isOnBox_52  y1.2 x1 x2 x3
    else
      (f_Mod_in y1.2 (x2).toInt64 (0 : Int64) ((y1.2 51 1)).toInt64).bind fun y3 =>
        if y3.1 = (0 : Int32) then
          f_Mod_isOnBox_52  y3.2 x1 x2 x3
        else
          (f_Mod_in y3.2 (x3).toInt64 (0 : Int64) ((y3.2 51 2)).toInt64).bind fun y4 =>
            if y4.1 = (0 : Int32) then
              f_Mod_isOnBox_52  y4.2 x1 x2 x3
            else
              f_Mod_isOnBox_53  y4.2 x1 x2 x3 (1 : Int32)
/-! BoxSpiderModel.isThere, method 110 -/
def f_Mod_isThere (sg : Hp) (x1 : Int32) : Option (Int32 × Hp) :=
  if inb ((3 : Int32) * x1) 24 = true then
    if inb (((3 : Int32) * x1) + (1 : Int32)) 24 = true then
      if inb (((3 : Int32) * x1) + (2 : Int32)) 24 = true then
        (f_Mod_isOnBox sg (sg 52 (((3 : Int32) * x1)).toNatClampNeg) (sg 52 ((((3 : Int32) * x1) + (1 : Int32))).toNatClampNeg) (sg 52 ((((3 : Int32) * x1) + (2 : Int32))).toNatClampNeg)).bind fun y4 =>
          if y4.1 = 0 ∨ y4.1 = 1 then some (y4.1, y4.2) else none
      else none
    else none
  else none
/-! BoxSpiderModel.puts, method 114 -/
def f_Mod_puts (sg : Hp) (x1 : Int32) (x2 : Int32) (x3 : Int32) (x4 : Int32) : Option (Hp) :=
  if inb ((3 : Int32) * x1) 24 = true then
    (some (w2 sg 52 (((3 : Int32) * x1)).toNatClampNeg x2)).bind fun s2 =>
      if inb (((3 : Int32) * x1) + (1 : Int32)) 24 = true then
        (some (w2 s2 52 ((((3 : Int32) * x1) + (1 : Int32))).toNatClampNeg x3)).bind fun s4 =>
          if inb (((3 : Int32) * x1) + (2 : Int32)) 24 = true then
            (some (w2 s4 52 ((((3 : Int32) * x1) + (2 : Int32))).toNatClampNeg x4)).bind fun s6 =>
              some s6
          else none
      else none
  else none
/-! BoxSpiderModel.side, method 109 -/
def f_Mod_side_69 (k44 : Hp → Int32 → Int32 → Option (Int32 × Hp)) (sg : Hp) (x3 : Int32) (x4 : Int32) : Option (Int32 × Hp) :=
  k44 sg x3 (x4 + (1 : Int32))
def f_Mod_side_44  : Nat → Hp → Int32 → Int32 → Option (Int32 × Hp)
  | 0, _, _, _ => none
  | n + 1, sg, x3, x4 =>
    if (8 : Int32) ≤ x4 then
      some (x3, sg)
    else
      (f_Mod_isThere sg x4).bind fun y6 =>
        if y6.1 = (0 : Int32) then
          (f_Mod_puts y6.2 x4 (0 : Int32) (0 : Int32) (0 : Int32)).bind fun y7 =>
            f_Mod_side_69 (f_Mod_side_44 n) y7 x3 x4
        else
          f_Mod_side_69 (f_Mod_side_44 n) y6.2 x3 x4
def f_Mod_side (sg : Hp) (x1 : Int32) (x2 : Int32) : Option (Int32 × Hp) :=
  (f_Mod_in sg (x1).toInt64 (0 : Int64) (2 : Int64)).bind fun y1 =>
    if y1.1 = (0 : Int32) then
      some ((-2 : Int32), y1.2)
    else
      (f_Mod_in y1.2 (x2).toInt64 (1 : Int64) (30 : Int64)).bind fun y2 =>
        if y2.1 = (0 : Int32) then
          some ((-2 : Int32), y2.2)
        else
          if inb x1 3 = true then
            if inb x1 3 = true then
              (some (w2 y2.2 51 (x1).toNatClampNeg x2)).bind fun s5 =>
                f_Mod_side_44  LF s5 (y2.2 51 (x1).toNatClampNeg) (0 : Int32)
            else none
          else none
/-! BoxSpider.isPlace, method 18 -/
def f_Box_isPlace (sg : Hp) (x0 : Int32) : Option (Int32 × Hp) :=
  if x0 < (0 : Int32) then
    some ((0 : Int32), sg)
  else
    if (8 : Int32) ≤ x0 then
      some ((0 : Int32), sg)
    else
      some ((1 : Int32), sg)
/-! BoxSpider.place, method 17 -/
def f_Box_place (sg : Hp) (x1 : Int32) (x2 : Int32) (x3 : Int32) (x4 : Int32) : Option (Int32 × Hp) :=
  (f_Box_isPlace sg x1).bind fun y1 =>
    if y1.1 = (0 : Int32) then
      some ((-2 : Int32), y1.2)
    else
      (f_Room_holds y1.2 x2 x3 x4).bind fun y2 =>
        if y2.1 = (0 : Int32) then
          some ((-2 : Int32), y2.2)
        else
          (f_Room_move y2.2 x1 x2 x3 x4).bind fun y3 =>
            some ((1 : Int32), y3)
/-! BoxSpiderModel.isPlace, method 116 -/
def f_Mod_isPlace (sg : Hp) (x0 : Int32) : Option (Int32 × Hp) :=
  (f_Mod_in sg (x0).toInt64 (0 : Int64) (7 : Int64)).bind fun y1 =>
    if y1.1 = 0 ∨ y1.1 = 1 then some (y1.1, y1.2) else none
/-! BoxSpiderModel.place, method 115 -/
def f_Mod_place (sg : Hp) (x1 : Int32) (x2 : Int32) (x3 : Int32) (x4 : Int32) : Option (Int32 × Hp) :=
  (f_Mod_isPlace sg x1).bind fun y1 =>
    if y1.1 = (0 : Int32) then
      some ((-2 : Int32), y1.2)
    else
      (f_Mod_isOnBox y1.2 x2 x3 x4).bind fun y2 =>
        if y2.1 = (0 : Int32) then
          some ((-2 : Int32), y2.2)
        else
          (f_Mod_puts y2.2 x1 x2 x3 x4).bind fun y3 =>
            some ((1 : Int32), y3)
/-! BoxSpider$Room.spotOf, method 20 -/
def f_Room_spotOf (sg : Hp) (x1 : Int32) (a2 : Nat) : Option (Hp) :=
  if inb x1 8 = true then
    if inb x1 8 = true then
      if inb x1 8 = true then
        (f_Spot_set sg a2 2 (sg 3 (x1).toNatClampNeg) (sg 4 (x1).toNatClampNeg) (sg 5 (x1).toNatClampNeg)).bind fun y4 =>
          some y4
      else none
    else none
  else none
/-! BoxSpider$Spot.wallBits, method 21 -/
def f_Spot_wallBits_25 (k4 : Hp → Nat → Int32 → Int32 → Option (Int32 × Hp)) (sg : Hp) (a0 : Nat) (x1 : Int32) (x2 : Int32) : Option (Int32 × Hp) :=
  k4 sg a0 x1 (x2 + (1 : Int32))
def f_Spot_wallBits_4  : Nat → Hp → Nat → Int32 → Int32 → Option (Int32 × Hp)
  | 0, _, _, _, _ => none
  | n + 1, sg, a0, x1, x2 =>
    if (6 : Int32) ≤ x2 then
      some (x1, sg)
    else
      if inb x2 6 = true then
        if (sg (rt a0 0) (x2).toNatClampNeg) = (0 : Int32) then
          f_Spot_wallBits_25 (f_Spot_wallBits_4 n) sg a0 (x1 ||| ((1 : Int32) <<< (x2 &&& 31))) x2
        else
          f_Spot_wallBits_25 (f_Spot_wallBits_4 n) sg a0 x1 x2
      else none
def f_Spot_wallBits (sg : Hp) (a0 : Nat) : Option (Int32 × Hp) :=
  f_Spot_wallBits_4  LF sg a0 (0 : Int32) (0 : Int32)
/-! BoxSpider.at, method 19 -/
def f_Box_at (sg : Hp) (x1 : Int32) (x2 : Int32) : Option (Int32 × Hp) :=
  (f_Box_isPlace sg x1).bind fun y1 =>
    if y1.1 = (0 : Int32) then
      some ((-2 : Int32), y1.2)
    else
      if x2 < (0 : Int32) then
        some ((-2 : Int32), y1.2)
      else
        if x2 ≤ (3 : Int32) then
          if x2 = (0 : Int32) then
            if inb x1 8 = true then
              some ((y1.2 3 (x1).toNatClampNeg), y1.2)
            else none
          else
            if x2 = (1 : Int32) then
              if inb x1 8 = true then
                some ((y1.2 4 (x1).toNatClampNeg), y1.2)
              else none
            else
              if x2 = (2 : Int32) then
                if inb x1 8 = true then
                  some ((y1.2 5 (x1).toNatClampNeg), y1.2)
                else none
              else
                (f_Room_spotOf y1.2 x1 35).bind fun y6 =>
                  (f_Spot_wallBits y6 35).bind fun y7 =>
                    some (y7.1, y7.2)
        else
          some ((-2 : Int32), y1.2)
/-! BoxSpiderModel.isOn, method 120 -/
def f_Mod_isOn (sg : Hp) (x1 : Int32) (x2 : Int32) : Option (Int32 × Hp) :=
  if inb ((3 : Int32) * x2) 24 = true then
    if inb (((3 : Int32) * x2) + (1 : Int32)) 24 = true then
      if inb (((3 : Int32) * x2) + (2 : Int32)) 24 = true then
        (f_Mod_liesOn sg x1 (sg 52 (((3 : Int32) * x2)).toNatClampNeg) (sg 52 ((((3 : Int32) * x2) + (1 : Int32))).toNatClampNeg) (sg 52 ((((3 : Int32) * x2) + (2 : Int32))).toNatClampNeg)).bind fun y4 =>
          if y4.1 = 0 ∨ y4.1 = 1 then some (y4.1, y4.2) else none
      else none
    else none
  else none
/-! BoxSpiderModel.facesOf, method 119 -/
def f_Mod_facesOf_27 (k4 : Hp → Int32 → Int32 → Int32 → Option (Int32 × Hp)) (sg : Hp) (x1 : Int32) (x3 : Int32) (xs0 : Int32) (xs1 : Int32) : Option (Int32 × Hp) :=
  k4 sg x1 (xs0 ||| xs1) (x3 + (1 : Int32))
def f_Mod_facesOf_4  : Nat → Hp → Int32 → Int32 → Int32 → Option (Int32 × Hp)
  | 0, _, _, _, _ => none
  | n + 1, sg, x1, x2, x3 =>
    if (6 : Int32) ≤ x3 then
      some (x2, sg)
    else
      (f_Mod_isOn sg x3 x1).bind fun y1 =>
        if y1.1 = (0 : Int32) then
          f_Mod_facesOf_27 (f_Mod_facesOf_4 n) y1.2 x1 x3 x2 (0 : Int32)
        else
          f_Mod_facesOf_27 (f_Mod_facesOf_4 n) y1.2 x1 x3 x2 ((1 : Int32) <<< (x3 &&& 31))
def f_Mod_facesOf (sg : Hp) (x1 : Int32) : Option (Int32 × Hp) :=
  f_Mod_facesOf_4  LF sg x1 (0 : Int32) (0 : Int32)
/-! BoxSpiderModel.atOf, method 118 -/
def f_Mod_atOf (sg : Hp) (x1 : Int32) (x2 : Int32) : Option (Int32 × Hp) :=
  if (3 : Int32) ≤ x2 then
    (f_Mod_facesOf sg x1).bind fun y1 =>
      some (y1.1, y1.2)
  else
    if inb (((3 : Int32) * x1) + x2) 24 = true then
      some ((sg 52 ((((3 : Int32) * x1) + x2)).toNatClampNeg), sg)
    else none
/-! BoxSpiderModel.at, method 117 -/
def f_Mod_at (sg : Hp) (x1 : Int32) (x2 : Int32) : Option (Int32 × Hp) :=
  (f_Mod_isPlace sg x1).bind fun y1 =>
    if y1.1 = (0 : Int32) then
      some ((-2 : Int32), y1.2)
    else
      (f_Mod_in y1.2 (x2).toInt64 (0 : Int64) (3 : Int64)).bind fun y2 =>
        if y2.1 = (0 : Int32) then
          some ((-2 : Int32), y2.2)
        else
          (f_Mod_atOf y2.2 x1 x2).bind fun y3 =>
            some (y3.1, y3.2)
/-! BoxSpider.isSheet, method 23 -/
def f_Box_isSheet (sg : Hp) (x0 : Int32) : Option (Int32 × Hp) :=
  if x0 < (0 : Int32) then
    some ((0 : Int32), sg)
  else
    if (4 : Int32) ≤ x0 then
      some ((0 : Int32), sg)
    else
      some ((1 : Int32), sg)
/-! BoxSpider$Sheet.isLost, method 24 -/
def f_Sheet_isLost (sg : Hp) (a0 : Nat) : Option (Int32 × Hp) :=
  if (sg a0 1) = (-1 : Int32) then
    some ((1 : Int32), sg)
  else
    some ((0 : Int32), sg)
/-! BoxSpider.found, method 25 -/
def f_Box_found (sg : Hp) (x1 : Int32) : Option (Int32 × Hp) :=
  (some (w2 sg 0 10 x1)).bind fun s1 =>
    some (((-10 : Int32) - x1), s1)
/-! BoxSpider.read, method 22 -/
def f_Box_read_45  : Nat → Hp → Nat → Int32 → Int32 → Option (Int32 × Hp)
  | 0, _, _, _, _ => none
  | n + 1, sg, a2, x3, x4 =>
    if x3 ≤ x4 then
      some (x3, sg)
    else
      if inb ((3 : Int32) * x4) 60 = true then
        if inb (((3 : Int32) * x4) + (1 : Int32)) 60 = true then
          if inb (((3 : Int32) * x4) + (2 : Int32)) 60 = true then
            (f_Room_holds sg (sg (rt a2 0) (((3 : Int32) * x4)).toNatClampNeg) (sg (rt a2 0) ((((3 : Int32) * x4) + (1 : Int32))).toNatClampNeg) (sg (rt a2 0) ((((3 : Int32) * x4) + (2 : Int32))).toNatClampNeg)).bind fun y7 =>
              if y7.1 = (0 : Int32) then
                some (x4, y7.2)
              else
                (f_Room_move y7.2 x4 (sg (rt a2 0) (((3 : Int32) * x4)).toNatClampNeg) (sg (rt a2 0) ((((3 : Int32) * x4) + (1 : Int32))).toNatClampNeg) (sg (rt a2 0) ((((3 : Int32) * x4) + (2 : Int32))).toNatClampNeg)).bind fun y8 =>
                  f_Box_read_45 n y8 a2 x3 (x4 + (1 : Int32))
          else none
        else none
      else none
def f_Box_read (sg : Hp) (x1 : Int32) : Option (Int32 × Hp) :=
  (f_Box_isSheet sg x1).bind fun y1 =>
    if y1.1 = (0 : Int32) then
      some ((-2 : Int32), y1.2)
    else
      if inb x1 4 = true then
        (f_Sheet_isLost y1.2 (rt 32 (x1).toNatClampNeg)).bind fun y3 =>
          if y3.1 = (0 : Int32) then
            f_Box_read_45  LF y3.2 (rt 32 (x1).toNatClampNeg) (if (8 : Int32) < ((y3.2 (rt 32 (x1).toNatClampNeg) 2) / (3 : Int32)) then (8 : Int32) else ((y3.2 (rt 32 (x1).toNatClampNeg) 2) / (3 : Int32))) (0 : Int32)
          else
            (f_Box_found y3.2 (1 : Int32)).bind fun y9 =>
              some (y9.1, y9.2)
      else none
/-! BoxSpiderModel.isSheet, method 100 -/
def f_Mod_isSheet (sg : Hp) (x0 : Int32) : Option (Int32 × Hp) :=
  (f_Mod_in sg (x0).toInt64 (0 : Int64) (3 : Int64)).bind fun y1 =>
    if y1.1 = 0 ∨ y1.1 = 1 then some (y1.1, y1.2) else none
/-! BoxSpiderModel.met, method 102 -/
def f_Mod_met (sg : Hp) (x1 : Int32) : Option (Int32 × Hp) :=
  (some (w2 sg 46 4 x1)).bind fun s1 =>
    some (((-10 : Int32) - x1), s1)
/-! BoxSpiderModel.read, method 121 -/
def f_Mod_read_113 (k29 : Hp → Int32 → Int32 → Int32 → Option (Int32 × Hp)) (sg : Hp) (x1 : Int32) (x3 : Int32) (xs0 : Int32) (xs1 : Int32) : Option (Int32 × Hp) :=
  k29 sg x1 (xs0 + xs1) x3
def f_Mod_read_102 (k29 : Hp → Int32 → Int32 → Int32 → Option (Int32 × Hp)) (sg : Hp) (x1 : Int32) (x2 : Int32) (xs0 : Int32) : Option (Int32 × Hp) :=
  if xs0 = (0 : Int32) then
    f_Mod_read_113 k29 sg x1 xs0 x2 (0 : Int32)
  else
    f_Mod_read_113 k29 sg x1 xs0 x2 (1 : Int32)
def f_Mod_read_29  : Nat → Hp → Int32 → Int32 → Int32 → Option (Int32 × Hp)
  | 0, _, _, _, _ => none
  | n + 1, sg, x1, x2, x3 =>
    if x3 = (0 : Int32) then
      some (x2, sg)
    else
      if (8 : Int32) ≤ x2 then
        some (x2, sg)
      else
        if inb x1 4 = true then
          if (sg 48 (x1).toNatClampNeg) < (((3 : Int32) * x2) + (3 : Int32)) then
            some (x2, sg)
          else
            if inb (((60 : Int32) * x1) + ((3 : Int32) * x2)) 240 = true then
              if inb ((((60 : Int32) * x1) + ((3 : Int32) * x2)) + (1 : Int32)) 240 = true then
                if inb ((((60 : Int32) * x1) + ((3 : Int32) * x2)) + (2 : Int32)) 240 = true then
                  (f_Mod_place sg x2 (sg 49 ((((60 : Int32) * x1) + ((3 : Int32) * x2))).toNatClampNeg) (sg 49 (((((60 : Int32) * x1) + ((3 : Int32) * x2)) + (1 : Int32))).toNatClampNeg) (sg 49 (((((60 : Int32) * x1) + ((3 : Int32) * x2)) + (2 : Int32))).toNatClampNeg)).bind fun y7 =>
                    if y7.1 = (1 : Int32) then
                      f_Mod_read_102 (f_Mod_read_29 n) y7.2 x1 x2 (1 : Int32)
                    else
                      f_Mod_read_102 (f_Mod_read_29 n) y7.2 x1 x2 (0 : Int32)
                else none
              else none
            else none
        else none
def f_Mod_read (sg : Hp) (x1 : Int32) : Option (Int32 × Hp) :=
  (f_Mod_isSheet sg x1).bind fun y1 =>
    if y1.1 = (0 : Int32) then
      some ((-2 : Int32), y1.2)
    else
      if inb x1 4 = true then
        if (0 : Int32) ≤ (y1.2 47 (x1).toNatClampNeg) then
          f_Mod_read_29  LF y1.2 x1 (0 : Int32) (1 : Int32)
        else
          (f_Mod_met y1.2 (1 : Int32)).bind fun y8 =>
            some (y8.1, y8.2)
      else none
/-! BoxSpider$Rolls.append, method 27 -/
def f_Rolls_append (sg : Hp) (x1 : Int32) : Option (Hp) :=
  if (40 : Int32) ≤ (sg 9 1) then
    some sg
  else
    if inb (sg 9 1) 40 = true then
      (some (w2 sg 10 ((sg 9 1)).toNatClampNeg x1)).bind fun s2 =>
        (some (w2 s2 9 1 ((s2 9 1) + (1 : Int32)))).bind fun s3 =>
          some s3
    else none
/-! BoxSpider.type, method 26 -/
def f_Box_type (sg : Hp) (x1 : Int32) : Option (Int32 × Hp) :=
  if x1 < (0 : Int32) then
    some ((-2 : Int32), sg)
  else
    if x1 ≤ (255 : Int32) then
      if (sg 9 1) < (40 : Int32) then
        (f_Rolls_append sg x1).bind fun y1 =>
          some ((y1 9 1), y1)
      else
        some ((-4 : Int32), sg)
    else
      some ((-2 : Int32), sg)
/-! BoxSpiderModel.type, method 125 -/
def f_Mod_type (sg : Hp) (x1 : Int32) : Option (Int32 × Hp) :=
  (f_Mod_in sg (x1).toInt64 (0 : Int64) (255 : Int64)).bind fun y1 =>
    if y1.1 = (0 : Int32) then
      some ((-2 : Int32), y1.2)
    else
      if (y1.2 46 9) = (40 : Int32) then
        some ((-4 : Int32), y1.2)
      else
        if inb (y1.2 46 9) 40 = true then
          (some (w2 y1.2 54 ((y1.2 46 9)).toNatClampNeg x1)).bind fun s3 =>
            (some (w2 s3 46 9 ((s3 46 9) + (1 : Int32)))).bind fun s4 =>
              some ((s4 46 9), s4)
        else none
/-! BoxSpider.undo, method 28 -/
def f_Box_undo (sg : Hp)  : Option (Int32 × Hp) :=
  if (sg 9 1) = (0 : Int32) then
    some ((-3 : Int32), sg)
  else
    (some (w2 sg 9 1 ((sg 9 1) - (1 : Int32)))).bind fun s1 =>
      some ((s1 9 1), s1)
/-! BoxSpiderModel.undo, method 126 -/
def f_Mod_undo (sg : Hp)  : Option (Int32 × Hp) :=
  if (sg 46 9) = (0 : Int32) then
    some ((-3 : Int32), sg)
  else
    (some (w2 sg 46 9 ((sg 46 9) - (1 : Int32)))).bind fun s1 =>
      some ((s1 46 9), s1)
/-! BoxSpider.wipe, method 29 -/
def f_Box_wipe (sg : Hp)  : Option (Int32 × Hp) :=
  (some (w2 sg 9 1 (0 : Int32))).bind fun s1 =>
    some ((sg 9 1), s1)
/-! BoxSpiderModel.wipe, method 127 -/
def f_Mod_wipe (sg : Hp)  : Option (Int32 × Hp) :=
  (some (w2 sg 46 9 (0 : Int32))).bind fun s1 =>
    some ((sg 46 9), s1)
/-! BoxSpider$Rolls.rollOf, method 32 -/
def f_Rolls_rollOf (sg : Hp) (x0 : Int32) : Option (Int32 × Hp) :=
  if x0 = (101 : Int32) then
    some ((1 : Int32), sg)
  else
    if x0 = (110 : Int32) then
      some ((3 : Int32), sg)
    else
      if x0 = (115 : Int32) then
        some ((4 : Int32), sg)
      else
        if x0 = (119 : Int32) then
          some ((2 : Int32), sg)
        else
          some ((0 : Int32), sg)
/-! BoxSpider$Rolls.firstWrong, method 31 -/
def f_Rolls_firstWrong_2  : Nat → Hp → Int32 → Option (Int32 × Hp)
  | 0, _, _ => none
  | n + 1, sg, x1 =>
    if (sg 9 1) ≤ x1 then
      some ((-1 : Int32), sg)
    else
      if (20 : Int32) ≤ x1 then
        some (x1, sg)
      else
        if inb x1 40 = true then
          (f_Rolls_rollOf sg (sg 10 (x1).toNatClampNeg)).bind fun y2 =>
            if y2.1 = (0 : Int32) then
              some (x1, y2.2)
            else
              f_Rolls_firstWrong_2 n y2.2 (x1 + (1 : Int32))
        else none
def f_Rolls_firstWrong (sg : Hp)  : Option (Int32 × Hp) :=
  f_Rolls_firstWrong_2  LF sg (0 : Int32)
/-! BoxSpider.fault, method 30 -/
def f_Box_fault (sg : Hp)  : Option (Int32 × Hp) :=
  (f_Rolls_firstWrong sg ).bind fun y1 =>
    some (y1.1, y1.2)
/-! BoxSpiderModel.rollOf, method 129 -/
def f_Mod_rollOf (sg : Hp) (x0 : Int32) : Option (Int32 × Hp) :=
  if x0 = (101 : Int32) then
    some ((0 : Int32), sg)
  else
    if x0 = (119 : Int32) then
      some ((1 : Int32), sg)
    else
      if x0 = (110 : Int32) then
        some ((2 : Int32), sg)
      else
        if x0 = (115 : Int32) then
          some ((3 : Int32), sg)
        else
          some ((-1 : Int32), sg)
/-! BoxSpiderModel.fault, method 128 -/
def f_Mod_fault_2  : Nat → Hp → Int32 → Option (Int32 × Hp)
  | 0, _, _ => none
  | n + 1, sg, x1 =>
    if (sg 46 9) ≤ x1 then
      some ((-1 : Int32), sg)
    else
      if x1 = (20 : Int32) then
        some (x1, sg)
      else
        if inb x1 40 = true then
          (f_Mod_rollOf sg (sg 54 (x1).toNatClampNeg)).bind fun y2 =>
            if y2.1 = (-1 : Int32) then
              some (x1, y2.2)
            else
              f_Mod_fault_2 n y2.2 (x1 + (1 : Int32))
        else none
def f_Mod_fault (sg : Hp)  : Option (Int32 × Hp) :=
  f_Mod_fault_2  LF sg (0 : Int32)
/-! BoxSpider.isWall, method 34 -/
def f_Box_isWall (sg : Hp) (x0 : Int32) : Option (Int32 × Hp) :=
  if x0 < (0 : Int32) then
    some ((0 : Int32), sg)
  else
    if (6 : Int32) ≤ x0 then
      some ((0 : Int32), sg)
    else
      some ((1 : Int32), sg)
/-! BoxSpider$Room.isBarred, method 35 -/
def f_Room_isBarred (sg : Hp) (x1 : Int32) (x2 : Int32) : Option (Int32 × Hp) :=
  if inb x1 6 = true then
    if (((sg 6 (x1).toNatClampNeg) >>> (x2 &&& 31)) &&& (1 : Int32)) = (1 : Int32) then
      some ((1 : Int32), sg)
    else
      some ((0 : Int32), sg)
  else none
/-! BoxSpider$Room.setBar, method 36 -/
def f_Room_setBar_59  (sg : Hp)  : Option (Hp) :=
  (some (w2 sg 1 6 ((sg 1 6) + (1 : Int32)))).bind fun s7 =>
    some s7
def f_Room_setBar (sg : Hp) (x1 : Int32) (x2 : Int32) (x3 : Int32) : Option (Hp) :=
  if x3 = (0 : Int32) then
    if inb x1 6 = true then
      if inb x1 6 = true then
        (some (w2 sg 6 (x1).toNatClampNeg ((sg 6 (x1).toNatClampNeg) &&& (((1 : Int32) <<< (x2 &&& 31)) ^^^ (-1 : Int32))))).bind fun s3 =>
          if inb x2 6 = true then
            if inb x2 6 = true then
              (some (w2 s3 6 (x2).toNatClampNeg ((s3 6 (x2).toNatClampNeg) &&& (((1 : Int32) <<< (x1 &&& 31)) ^^^ (-1 : Int32))))).bind fun s6 =>
                f_Room_setBar_59  s6 
            else none
          else none
      else none
    else none
  else
    if inb x1 6 = true then
      if inb x1 6 = true then
        (some (w2 sg 6 (x1).toNatClampNeg ((sg 6 (x1).toNatClampNeg) ||| ((1 : Int32) <<< (x2 &&& 31))))).bind fun s10 =>
          if inb x2 6 = true then
            if inb x2 6 = true then
              (some (w2 s10 6 (x2).toNatClampNeg ((s10 6 (x2).toNatClampNeg) ||| ((1 : Int32) <<< (x1 &&& 31))))).bind fun s13 =>
                f_Room_setBar_59  s13 
            else none
          else none
      else none
    else none
/-! BoxSpider.bar, method 33 -/
def f_Box_bar_70  (sg : Hp) (x4 : Int32) (xs1 : Int32) (xs2 : Int32) (xs3 : Int32) : Option (Int32 × Hp) :=
  (f_Room_setBar sg xs1 xs2 xs3).bind fun y4 =>
    some (x4, y4)
def f_Box_bar_52  (sg : Hp) (x1 : Int32) (x2 : Int32) (x3 : Int32) (xs0 : Int32) : Option (Int32 × Hp) :=
  if x3 = (1 : Int32) then
    f_Box_bar_70  sg xs0 x1 x2 (1 : Int32)
  else
    f_Box_bar_70  sg xs0 x1 x2 (0 : Int32)
def f_Box_bar (sg : Hp) (x1 : Int32) (x2 : Int32) (x3 : Int32) : Option (Int32 × Hp) :=
  (f_Box_isWall sg x1).bind fun y1 =>
    if y1.1 = (0 : Int32) then
      some ((-2 : Int32), y1.2)
    else
      (f_Box_isWall y1.2 x2).bind fun y2 =>
        if y2.1 = (0 : Int32) then
          some ((-2 : Int32), y2.2)
        else
          if (x1 >>> ((1 : Int32) &&& 31)) = (x2 >>> ((1 : Int32) &&& 31)) then
            some ((-2 : Int32), y2.2)
          else
            if x3 < (0 : Int32) then
              some ((-2 : Int32), y2.2)
            else
              if x3 ≤ (1 : Int32) then
                (f_Room_isBarred y2.2 x1 x2).bind fun y3 =>
                  if y3.1 = (0 : Int32) then
                    f_Box_bar_52  y3.2 x1 x2 x3 (0 : Int32)
                  else
                    f_Box_bar_52  y3.2 x1 x2 x3 (1 : Int32)
              else
                some ((-2 : Int32), y2.2)
/-! BoxSpiderModel.isFace, method 123 -/
def f_Mod_isFace (sg : Hp) (x0 : Int32) : Option (Int32 × Hp) :=
  (f_Mod_in sg (x0).toInt64 (0 : Int64) (5 : Int64)).bind fun y1 =>
    if y1.1 = 0 ∨ y1.1 = 1 then some (y1.1, y1.2) else none
/-! BoxSpiderModel.isTwo, method 124 -/
def f_Mod_isTwo (sg : Hp) (x0 : Int32) : Option (Int32 × Hp) :=
  (f_Mod_in sg (x0).toInt64 (0 : Int64) (1 : Int64)).bind fun y1 =>
    if y1.1 = 0 ∨ y1.1 = 1 then some (y1.1, y1.2) else none
/-! BoxSpiderModel.bar, method 122 -/
def f_Mod_bar (sg : Hp) (x1 : Int32) (x2 : Int32) (x3 : Int32) : Option (Int32 × Hp) :=
  (f_Mod_isFace sg x1).bind fun y1 =>
    if y1.1 = (0 : Int32) then
      some ((-2 : Int32), y1.2)
    else
      (f_Mod_isFace y1.2 x2).bind fun y2 =>
        if y2.1 = (0 : Int32) then
          some ((-2 : Int32), y2.2)
        else
          if (x1 / (2 : Int32)) = (x2 / (2 : Int32)) then
            some ((-2 : Int32), y2.2)
          else
            (f_Mod_isTwo y2.2 x3).bind fun y3 =>
              if y3.1 = (0 : Int32) then
                some ((-2 : Int32), y3.2)
              else
                if inb x1 6 = true then
                  if inb x1 6 = true then
                    if inb x1 6 = true then
                      (some (w2 y3.2 53 (x1).toNatClampNeg (((y3.2 53 (x1).toNatClampNeg) &&& (((1 : Int32) <<< (x2 &&& 31)) ^^^ (-1 : Int32))) ||| (x3 <<< (x2 &&& 31))))).bind fun s7 =>
                        if inb x2 6 = true then
                          if inb x2 6 = true then
                            (some (w2 s7 53 (x2).toNatClampNeg (((s7 53 (x2).toNatClampNeg) &&& (((1 : Int32) <<< (x1 &&& 31)) ^^^ (-1 : Int32))) ||| (x3 <<< (x1 &&& 31))))).bind fun s10 =>
                              some ((((y3.2 53 (x1).toNatClampNeg) >>> (x2 &&& 31)) &&& (1 : Int32)), s10)
                          else none
                        else none
                    else none
                  else none
                else none
/-! BoxSpider$Rolls.valid, method 38 -/
def f_Rolls_valid (sg : Hp)  : Option (Int32 × Hp) :=
  (f_Rolls_firstWrong sg ).bind fun y1 =>
    if y1.1 = (-1 : Int32) then
      some ((y1.2 9 1), y1.2)
    else
      some ((0 : Int32), y1.2)
/-! BoxSpider$Stand.start, method 40 -/
def f_Stand_start_33  (sg : Hp) (a0 : Nat) (a2 : Nat) (as0 : Nat) (xs1 : Int32) : Option (Hp) :=
  (some (w2 sg as0 2 xs1)).bind fun s3 =>
    (some (w2 s3 a0 3 (0 : Int32))).bind fun s4 =>
      (some (w2 s4 a0 4 (0 : Int32))).bind fun s5 =>
        if inb ((s5 a0 1) >>> ((1 : Int32) &&& 31)) 3 = true then
          (some (w2 s5 a0 5 (s5 a2 (((s5 a0 1) >>> ((1 : Int32) &&& 31))).toNatClampNeg))).bind fun s7 =>
            if inb ((s7 a0 2) >>> ((1 : Int32) &&& 31)) 3 = true then
              (some (w2 s7 a0 6 (s7 a2 (((s7 a0 2) >>> ((1 : Int32) &&& 31))).toNatClampNeg))).bind fun s9 =>
                if inb ((s9 a0 0) >>> ((1 : Int32) &&& 31)) 3 = true then
                  (some (w2 s9 a0 7 (s9 a2 (((s9 a0 0) >>> ((1 : Int32) &&& 31))).toNatClampNeg))).bind fun s11 =>
                    some s11
                else none
            else none
        else none
def f_Stand_start_18  (sg : Hp) (a0 : Nat) (x1 : Int32) (a2 : Nat) (as0 : Nat) (xs1 : Int32) : Option (Hp) :=
  (some (w2 sg as0 1 xs1)).bind fun s2 =>
    if (x1 >>> ((1 : Int32) &&& 31)) = (0 : Int32) then
      f_Stand_start_33  s2 a0 a2 a0 (5 : Int32)
    else
      f_Stand_start_33  s2 a0 a2 a0 (1 : Int32)
def f_Stand_start (sg : Hp) (a0 : Nat) (x1 : Int32) (a2 : Nat) : Option (Hp) :=
  (some (w2 sg a0 0 x1)).bind fun s1 =>
    if (x1 >>> ((1 : Int32) &&& 31)) = (1 : Int32) then
      f_Stand_start_18  s1 a0 x1 a2 a0 (5 : Int32)
    else
      f_Stand_start_18  s1 a0 x1 a2 a0 (3 : Int32)
/-! BoxSpider$Stand.roll, method 41 -/
def f_Stand_roll (sg : Hp) (a0 : Nat) (x1 : Int32) : Option (Hp) :=
  if x1 = (1 : Int32) then
    (some (w2 sg a0 0 (sg a0 1))).bind fun s16 =>
      (some (w2 s16 a0 1 ((sg a0 0) ^^^ (1 : Int32)))).bind fun s17 =>
        (some (w2 s17 a0 3 ((s17 a0 3) + (s17 a0 5)))).bind fun s18 =>
          (some (w2 s18 a0 7 (s18 a0 5))).bind fun s19 =>
            (some (w2 s19 a0 5 (sg a0 7))).bind fun s20 =>
              some s20
  else
    if x1 = (2 : Int32) then
      (some (w2 sg a0 0 ((sg a0 1) ^^^ (1 : Int32)))).bind fun s11 =>
        (some (w2 s11 a0 1 (sg a0 0))).bind fun s12 =>
          (some (w2 s12 a0 3 ((s12 a0 3) - (s12 a0 7)))).bind fun s13 =>
            (some (w2 s13 a0 7 (s13 a0 5))).bind fun s14 =>
              (some (w2 s14 a0 5 (sg a0 7))).bind fun s15 =>
                some s15
    else
      if x1 = (3 : Int32) then
        (some (w2 sg a0 0 (sg a0 2))).bind fun s6 =>
          (some (w2 s6 a0 2 ((sg a0 0) ^^^ (1 : Int32)))).bind fun s7 =>
            (some (w2 s7 a0 4 ((s7 a0 4) + (s7 a0 6)))).bind fun s8 =>
              (some (w2 s8 a0 7 (s8 a0 6))).bind fun s9 =>
                (some (w2 s9 a0 6 (sg a0 7))).bind fun s10 =>
                  some s10
      else
        if x1 = (4 : Int32) then
          (some (w2 sg a0 0 ((sg a0 2) ^^^ (1 : Int32)))).bind fun s1 =>
            (some (w2 s1 a0 2 (sg a0 0))).bind fun s2 =>
              (some (w2 s2 a0 4 ((s2 a0 4) - (s2 a0 7)))).bind fun s3 =>
                (some (w2 s3 a0 7 (s3 a0 6))).bind fun s4 =>
                  (some (w2 s4 a0 6 (sg a0 7))).bind fun s5 =>
                    some s5
        else
          some sg
/-! BoxSpider.standBehind, method 39 -/
def f_Box_standBehind_17  : Nat → Hp → Int32 → Int32 → Option (Hp)
  | 0, _, _, _ => none
  | n + 1, sg, x1, x2 =>
    if x1 ≤ x2 then
      some sg
    else
      if (sg 9 1) ≤ x2 then
        some sg
      else
        if inb x2 40 = true then
          (f_Rolls_rollOf sg (sg 10 (x2).toNatClampNeg)).bind fun y3 =>
            (f_Stand_roll y3.2 33 y3.1).bind fun y4 =>
              f_Box_standBehind_17 n y4 x1 (x2 + (1 : Int32))
        else none
def f_Box_standBehind (sg : Hp) (x1 : Int32) : Option (Hp) :=
  (f_Stand_start sg 33 (0 : Int32) 2).bind fun y1 =>
    f_Box_standBehind_17  LF y1 x1 (0 : Int32)
/-! BoxSpider.laidOut, method 37 -/
def f_Box_laidOut (sg : Hp) (x1 : Int32) (x2 : Int32) : Option (Int32 × Hp) :=
  if x1 < (0 : Int32) then
    some ((-10002 : Int32), sg)
  else
    (f_Rolls_valid sg ).bind fun y1 =>
      if y1.1 < x1 then
        some ((-10002 : Int32), y1.2)
      else
        if x2 < (0 : Int32) then
          some ((-10002 : Int32), y1.2)
        else
          if x2 ≤ (4 : Int32) then
            (f_Box_standBehind y1.2 x1).bind fun y2 =>
              if x2 = (0 : Int32) then
                some ((y2 33 0), y2)
              else
                if x2 = (1 : Int32) then
                  some ((y2 33 3), y2)
                else
                  if x2 = (2 : Int32) then
                    some ((y2 33 4), y2)
                  else
                    if x2 = (3 : Int32) then
                      some ((y2 33 5), y2)
                    else
                      some ((y2 33 6), y2)
          else
            some ((-10002 : Int32), y1.2)
/-! BoxSpiderModel.rolls, method 131 -/
def f_Mod_rolls (sg : Hp)  : Option (Int32 × Hp) :=
  (f_Mod_fault sg ).bind fun y1 =>
    if y1.1 = (-1 : Int32) then
      some ((y1.2 46 9), y1.2)
    else
      some ((0 : Int32), y1.2)
/-! BoxSpiderModel.begins, method 134 -/
def f_Mod_begins_33 (k2 : Hp → Int32 → Option (Hp)) (sg : Hp) (x1 : Int32) (xs1 : Int32) (xs2 : Int32) : Option (Hp) :=
  if inb xs1 560 = true then
    (some (w2 sg 55 (xs1).toNatClampNeg xs2)).bind fun s2 =>
      k2 s2 (x1 + (1 : Int32))
  else none
def f_Mod_begins_28 (k2 : Hp → Int32 → Option (Hp)) (sg : Hp) (x1 : Int32) (xs1 : Int32) : Option (Hp) :=
  f_Mod_begins_33 k2 sg x1 xs1 (1 : Int32)
def f_Mod_begins_2  : Nat → Hp → Int32 → Option (Hp)
  | 0, _, _ => none
  | n + 1, sg, x1 =>
    if (14 : Int32) ≤ x1 then
      some sg
    else
      if x1 = (0 : Int32) then
        f_Mod_begins_28 (f_Mod_begins_2 n) sg x1 x1
      else
        if x1 = (4 : Int32) then
          f_Mod_begins_28 (f_Mod_begins_2 n) sg x1 x1
        else
          if x1 = (8 : Int32) then
            f_Mod_begins_28 (f_Mod_begins_2 n) sg x1 x1
          else
            f_Mod_begins_33 (f_Mod_begins_2 n) sg x1 x1 (0 : Int32)
def f_Mod_begins (sg : Hp)  : Option (Hp) :=
  f_Mod_begins_2  LF sg (0 : Int32)
/-! BoxSpiderModel.far, method 136 -/
def f_Mod_far (sg : Hp) (x1 : Int32) (x2 : Int32) : Option (Int32 × Hp) :=
  if inb (((14 : Int32) * x1) + x2) 560 = true then
    if (sg 55 ((((14 : Int32) * x1) + x2)).toNatClampNeg) = (0 : Int32) then
      if inb ((((14 : Int32) * x1) + x2) + (1 : Int32)) 560 = true then
        if (sg 55 (((((14 : Int32) * x1) + x2) + (1 : Int32))).toNatClampNeg) = (0 : Int32) then
          some ((sg 51 2), sg)
        else
          some ((sg 51 1), sg)
      else none
    else
      some ((sg 51 0), sg)
  else none
/-! BoxSpiderModel.southWest, method 137 -/
def f_Mod_southWest (sg : Hp) (x1 : Int32) (x2 : Int32) : Option (Int32 × Hp) :=
  if inb ((((14 : Int32) * x1) + (12 : Int32)) + x2) 560 = true then
    some ((sg 55 (((((14 : Int32) * x1) + (12 : Int32)) + x2)).toNatClampNeg), sg)
  else none
/-! BoxSpiderModel.turns, method 135 -/
def f_Mod_turns_325  (sg : Hp) (x1 : Int32) (x6 : Int32) (x10 : Int32) (xs1 : Int32) (xs2 : Int32) (xs3 : Int32) : Option (Hp) :=
  if inb xs1 160 = true then
    (some (w2 sg 56 (xs1).toNatClampNeg (xs2 + xs3))).bind fun s13 =>
      (f_Mod_southWest s13 x1 ((1 : Int32) - x10)).bind fun y14 =>
        if inb (((4 : Int32) * x1) + (2 : Int32)) 160 = true then
          (some (w2 y14.2 56 ((((4 : Int32) * x1) + (2 : Int32))).toNatClampNeg y14.1)).bind fun s16 =>
            (f_Mod_southWest s16 x1 ((1 : Int32) - x10)).bind fun y17 =>
              (f_Mod_far y17.2 x1 x6).bind fun y18 =>
                if inb (((4 : Int32) * x1) + (3 : Int32)) 160 = true then
                  (some (w2 y18.2 56 ((((4 : Int32) * x1) + (3 : Int32))).toNatClampNeg (y17.1 + y18.1))).bind fun s20 =>
                    some s20
                else none
        else none
  else none
def f_Mod_turns_262  (sg : Hp) (x1 : Int32) (x4 : Int32) (x6 : Int32) (x7 : Int32) (x8 : Int32) (x10 : Int32) (xs1 : Int32) (xs2 : Int32) (xs3 : Int32) : Option (Hp) :=
  if inb xs1 560 = true then
    (some (w2 sg 55 (xs1).toNatClampNeg (xs2 + xs3))).bind fun s5 =>
      (f_Mod_southWest s5 x1 ((1 : Int32) - x10)).bind fun y6 =>
        if inb ((x4 + (13 : Int32)) - x10) 560 = true then
          (some (w2 y6.2 55 (((x4 + (13 : Int32)) - x10)).toNatClampNeg y6.1)).bind fun s8 =>
            if inb ((4 : Int32) * x1) 160 = true then
              (some (w2 s8 56 (((4 : Int32) * x1)).toNatClampNeg ((1 : Int32) - x10))).bind fun s10 =>
                (f_Mod_southWest s10 x1 x10).bind fun y11 =>
                  if x7 = (0 : Int32) then
                    f_Mod_turns_325  y11.2 x1 x6 x10 (((4 : Int32) * x1) + (1 : Int32)) y11.1 (0 : Int32)
                  else
                    f_Mod_turns_325  y11.2 x1 x6 x10 (((4 : Int32) * x1) + (1 : Int32)) y11.1 x8
            else none
        else none
  else none
def f_Mod_turns_216 (k63 : Hp → Int32 → Int32 → Int32 → Int32 → Int32 → Int32 → Int32 → Int32 → Int32 → Option (Hp)) (sg : Hp) (x1 : Int32) (x3 : Int32) (x4 : Int32) (x5 : Int32) (x6 : Int32) (x7 : Int32) (x8 : Int32) (x9 : Int32) (x10 : Int32) (xs1 : Int32) (xs2 : Int32) (xs3 : Int32) : Option (Hp) :=
  if inb xs1 560 = true then
    (some (w2 sg 55 (xs1).toNatClampNeg (xs2 + xs3))).bind fun s32 =>
      k63 s32 x1 x3 x4 x5 x6 x7 x8 x9 (x10 + (1 : Int32))
  else none
def f_Mod_turns_173 (k63 : Hp → Int32 → Int32 → Int32 → Int32 → Int32 → Int32 → Int32 → Int32 → Int32 → Option (Hp)) (sg : Hp) (x1 : Int32) (x3 : Int32) (x4 : Int32) (x5 : Int32) (x6 : Int32) (x7 : Int32) (x8 : Int32) (x9 : Int32) (x10 : Int32) (x11 : Int32) (x12 : Int32) (xs1 : Int32) (xs2 : Int32) : Option (Hp) :=
  if inb xs1 560 = true then
    (some (w2 sg 55 (xs1).toNatClampNeg xs2)).bind fun s29 =>
      if inb ((x3 + (9 : Int32)) + x10) 560 = true then
        if x7 = (0 : Int32) then
          f_Mod_turns_216 k63 s29 x1 x3 x4 x5 x6 x7 x8 x9 x10 ((x4 + (9 : Int32)) + x10) (s29 55 (((x3 + (9 : Int32)) + x10)).toNatClampNeg) (x9 * x12)
        else
          f_Mod_turns_216 k63 s29 x1 x3 x4 x5 x6 x7 x8 x9 x10 ((x4 + (9 : Int32)) + x10) (s29 55 (((x3 + (9 : Int32)) + x10)).toNatClampNeg) (x8 * x11)
      else none
  else none
def f_Mod_turns_122 (k63 : Hp → Int32 → Int32 → Int32 → Int32 → Int32 → Int32 → Int32 → Int32 → Int32 → Option (Hp)) (sg : Hp) (x1 : Int32) (x3 : Int32) (x4 : Int32) (x5 : Int32) (x6 : Int32) (x7 : Int32) (x8 : Int32) (x9 : Int32) (x10 : Int32) (x11 : Int32) (x12 : Int32) (xs1 : Int32) (xs2 : Int32) : Option (Hp) :=
  if inb xs1 560 = true then
    (some (w2 sg 55 (xs1).toNatClampNeg xs2)).bind fun s24 =>
      if inb ((x3 + x6) + x10) 560 = true then
        if inb ((x4 + x6) + x10) 560 = true then
          (some (w2 s24 55 (((x4 + x6) + x10)).toNatClampNeg (s24 55 (((x3 + x6) + x10)).toNatClampNeg))).bind fun s27 =>
            if x7 = (0 : Int32) then
              f_Mod_turns_173 k63 s27 x1 x3 x4 x5 x6 x7 x8 x9 x10 x11 x12 ((x4 + (6 : Int32)) + x10) x11
            else
              f_Mod_turns_173 k63 s27 x1 x3 x4 x5 x6 x7 x8 x9 x10 x11 x12 ((x4 + (6 : Int32)) + x10) (-x11)
        else none
      else none
  else none
def f_Mod_turns_63  : Nat → Hp → Int32 → Int32 → Int32 → Int32 → Int32 → Int32 → Int32 → Int32 → Int32 → Option (Hp)
  | 0, _, _, _, _, _, _, _, _, _, _ => none
  | n + 1, sg, x1, x3, x4, x5, x6, x7, x8, x9, x10 =>
    if (3 : Int32) ≤ x10 then
      (f_Mod_southWest sg x1 (x5 / (3 : Int32))).bind fun y3 =>
        if x7 = (0 : Int32) then
          f_Mod_turns_262  y3.2 x1 x4 x6 x7 x8 (x5 / (3 : Int32)) ((x4 + (12 : Int32)) + (x5 / (3 : Int32))) y3.1 (-x9)
        else
          f_Mod_turns_262  y3.2 x1 x4 x6 x7 x8 (x5 / (3 : Int32)) ((x4 + (12 : Int32)) + (x5 / (3 : Int32))) y3.1 x8
    else
      if inb ((x3 + x5) + x10) 560 = true then
        if inb ((x3 + (6 : Int32)) + x10) 560 = true then
          if x7 = (0 : Int32) then
            f_Mod_turns_122 (f_Mod_turns_63 n) sg x1 x3 x4 x5 x6 x7 x8 x9 x10 (sg 55 (((x3 + x5) + x10)).toNatClampNeg) (sg 55 (((x3 + (6 : Int32)) + x10)).toNatClampNeg) ((x4 + x5) + x10) (-(sg 55 (((x3 + (6 : Int32)) + x10)).toNatClampNeg))
          else
            f_Mod_turns_122 (f_Mod_turns_63 n) sg x1 x3 x4 x5 x6 x7 x8 x9 x10 (sg 55 (((x3 + x5) + x10)).toNatClampNeg) (sg 55 (((x3 + (6 : Int32)) + x10)).toNatClampNeg) ((x4 + x5) + x10) (sg 55 (((x3 + (6 : Int32)) + x10)).toNatClampNeg)
        else none
      else none
def f_Mod_turns_40  (sg : Hp) (x1 : Int32) (x3 : Int32) (x4 : Int32) (x5 : Int32) (x6 : Int32) (xs0 : Int32) : Option (Hp) :=
  (f_Mod_far sg x1 x5).bind fun y1 =>
    (f_Mod_far y1.2 x1 (6 : Int32)).bind fun y2 =>
      f_Mod_turns_63  LF y2.2 x1 x3 x4 x5 x6 xs0 y1.1 y2.1 (0 : Int32)
def f_Mod_turns_21  (sg : Hp) (x1 : Int32) (x2 : Int32) (x3 : Int32) (x4 : Int32) (xs0 : Int32) : Option (Hp) :=
  if (x2 - x2 / (2 : Int32) * (2 : Int32)) = (0 : Int32) then
    f_Mod_turns_40  sg x1 x3 x4 xs0 ((3 : Int32) - xs0) (1 : Int32)
  else
    f_Mod_turns_40  sg x1 x3 x4 xs0 ((3 : Int32) - xs0) (0 : Int32)
def f_Mod_turns (sg : Hp) (x1 : Int32) (x2 : Int32) : Option (Hp) :=
  if (2 : Int32) ≤ x2 then
    f_Mod_turns_21  sg x1 x2 ((14 : Int32) * x1) (((14 : Int32) * x1) + (14 : Int32)) (3 : Int32)
  else
    f_Mod_turns_21  sg x1 x2 ((14 : Int32) * x1) (((14 : Int32) * x1) + (14 : Int32)) (0 : Int32)
/-! BoxSpiderModel.goesTo, method 133 -/
def f_Mod_goesTo_6  : Nat → Hp → Int32 → Int32 → Option (Hp)
  | 0, _, _, _ => none
  | n + 1, sg, x1, x2 =>
    if x1 ≤ x2 then
      some sg
    else
      if inb x2 40 = true then
        (f_Mod_rollOf sg (sg 54 (x2).toNatClampNeg)).bind fun y3 =>
          (f_Mod_turns y3.2 x2 y3.1).bind fun y4 =>
            f_Mod_goesTo_6 n y4 x1 (x2 + (1 : Int32))
      else none
def f_Mod_goesTo (sg : Hp) (x1 : Int32) : Option (Hp) :=
  (f_Mod_begins sg ).bind fun y1 =>
    f_Mod_goesTo_6  LF y1 x1 (0 : Int32)
/-! BoxSpiderModel.faceAt, method 138 -/
def f_Mod_faceAt_56  (sg : Hp) (x2 : Int32) (x3 : Int32) (xs0 : Int32) : Option (Int32 × Hp) :=
  if inb (x2 + x3) 560 = true then
    if (sg 55 ((x2 + x3)).toNatClampNeg) ≤ (0 : Int32) then
      some ((xs0 + (1 : Int32)), sg)
    else
      some (xs0, sg)
  else none
def f_Mod_faceAt_37  (sg : Hp) (x2 : Int32) (xs0 : Int32) : Option (Int32 × Hp) :=
  if xs0 = (2 : Int32) then
    f_Mod_faceAt_56  sg x2 xs0 (0 : Int32)
  else
    if xs0 = (0 : Int32) then
      f_Mod_faceAt_56  sg x2 xs0 (2 : Int32)
    else
      f_Mod_faceAt_56  sg x2 xs0 (4 : Int32)
def f_Mod_faceAt (sg : Hp) (x1 : Int32) : Option (Int32 × Hp) :=
  if inb (((14 : Int32) * x1) + (6 : Int32)) 560 = true then
    if (sg 55 ((((14 : Int32) * x1) + (6 : Int32))).toNatClampNeg) = (0 : Int32) then
      if inb ((((14 : Int32) * x1) + (6 : Int32)) + (1 : Int32)) 560 = true then
        if (sg 55 (((((14 : Int32) * x1) + (6 : Int32)) + (1 : Int32))).toNatClampNeg) = (0 : Int32) then
          f_Mod_faceAt_37  sg (((14 : Int32) * x1) + (6 : Int32)) (2 : Int32)
        else
          f_Mod_faceAt_37  sg (((14 : Int32) * x1) + (6 : Int32)) (1 : Int32)
      else none
    else
      f_Mod_faceAt_37  sg (((14 : Int32) * x1) + (6 : Int32)) (0 : Int32)
  else none
/-! BoxSpiderModel.laidOf, method 132 -/
def f_Mod_laidOf (sg : Hp) (x1 : Int32) (x2 : Int32) : Option (Int32 × Hp) :=
  (f_Mod_goesTo sg x1).bind fun y1 =>
    if x2 = (0 : Int32) then
      (f_Mod_faceAt y1 x1).bind fun y4 =>
        some (y4.1, y4.2)
    else
      if (3 : Int32) ≤ x2 then
        (f_Mod_far y1 x1 ((3 : Int32) * (x2 - (3 : Int32)))).bind fun y2 =>
          some (y2.1, y2.2)
      else
        (f_Mod_southWest y1 x1 (x2 - (1 : Int32))).bind fun y3 =>
          some (y3.1, y3.2)
/-! BoxSpiderModel.laidOut, method 130 -/
def f_Mod_laidOut (sg : Hp) (x1 : Int32) (x2 : Int32) : Option (Int32 × Hp) :=
  (f_Mod_rolls sg ).bind fun y1 =>
    (f_Mod_in y1.2 (x1).toInt64 (0 : Int64) (y1.1).toInt64).bind fun y2 =>
      if y2.1 = (0 : Int32) then
        some ((-10002 : Int32), y2.2)
      else
        (f_Mod_in y2.2 (x2).toInt64 (0 : Int64) (4 : Int64)).bind fun y3 =>
          if y3.1 = (0 : Int32) then
            some ((-10002 : Int32), y3.2)
          else
            (f_Mod_laidOf y3.2 x1 x2).bind fun y4 =>
              some (y4.1, y4.2)
/-! BoxSpider$Spot.isOn, method 43 -/
def f_Spot_isOn (sg : Hp) (a0 : Nat) (x1 : Int32) : Option (Int32 × Hp) :=
  if inb x1 6 = true then
    if (sg (rt a0 0) (x1).toNatClampNeg) = (0 : Int32) then
      some ((1 : Int32), sg)
    else
      some ((0 : Int32), sg)
  else none
/-! BoxSpider$Stand.planeX, method 44 -/
def f_Stand_planeX (sg : Hp) (a0 : Nat) (a1 : Nat) : Option (Int32 × Hp) :=
  if inb ((sg a0 1) ^^^ (1 : Int32)) 6 = true then
    some (((sg a0 3) + (sg (rt a1 0) (((sg a0 1) ^^^ (1 : Int32))).toNatClampNeg)), sg)
  else none
/-! BoxSpider$Stand.planeY, method 45 -/
def f_Stand_planeY (sg : Hp) (a0 : Nat) (a1 : Nat) : Option (Int32 × Hp) :=
  if inb ((sg a0 2) ^^^ (1 : Int32)) 6 = true then
    some (((sg a0 4) + (sg (rt a1 0) (((sg a0 2) ^^^ (1 : Int32))).toNatClampNeg)), sg)
  else none
/-! BoxSpider.lies, method 42 -/
def f_Box_lies (sg : Hp) (x1 : Int32) (x2 : Int32) (x3 : Int32) : Option (Int32 × Hp) :=
  (f_Box_isPlace sg x1).bind fun y1 =>
    if y1.1 = (0 : Int32) then
      some ((-10002 : Int32), y1.2)
    else
      if x2 < (0 : Int32) then
        some ((-10002 : Int32), y1.2)
      else
        (f_Rolls_valid y1.2 ).bind fun y2 =>
          if y2.1 < x2 then
            some ((-10002 : Int32), y2.2)
          else
            if x3 < (0 : Int32) then
              some ((-10002 : Int32), y2.2)
            else
              if x3 ≤ (1 : Int32) then
                (f_Box_standBehind y2.2 x2).bind fun y3 =>
                  (f_Room_spotOf y3 x1 35).bind fun y4 =>
                    (f_Spot_isOn y4 35 (y4 33 0)).bind fun y5 =>
                      if y5.1 = (0 : Int32) then
                        some ((-10003 : Int32), y5.2)
                      else
                        if x3 = (0 : Int32) then
                          (f_Stand_planeX y5.2 33 35).bind fun y7 =>
                            some (y7.1, y7.2)
                        else
                          (f_Stand_planeY y5.2 33 35).bind fun y6 =>
                            some (y6.1, y6.2)
              else
                some ((-10002 : Int32), y2.2)
/-! BoxSpiderModel.imageOf, method 142 -/
def f_Mod_imageOf_17  : Nat → Hp → Int32 → Int32 → Int32 → Int32 → Int32 → Option (Int32 × Hp)
  | 0, _, _, _, _, _, _ => none
  | n + 1, sg, x1, x4, x5, x6, x7 =>
    if (3 : Int32) ≤ x7 then
      some (x6, sg)
    else
      if inb (((3 : Int32) * x1) + x7) 24 = true then
        if inb ((x5 + (9 : Int32)) + x7) 560 = true then
          if inb ((x5 + x4) + x7) 560 = true then
            f_Mod_imageOf_17 n sg x1 x4 x5 (x6 + (((sg 52 ((((3 : Int32) * x1) + x7)).toNatClampNeg) - (sg 55 (((x5 + (9 : Int32)) + x7)).toNatClampNeg)) * (sg 55 (((x5 + x4) + x7)).toNatClampNeg))) (x7 + (1 : Int32))
          else none
        else none
      else none
def f_Mod_imageOf (sg : Hp) (x1 : Int32) (x2 : Int32) (x3 : Int32) (x4 : Int32) : Option (Int32 × Hp) :=
  (f_Mod_southWest sg x2 x3).bind fun y1 =>
    f_Mod_imageOf_17  LF y1.2 x1 x4 ((14 : Int32) * x2) y1.1 (0 : Int32)
/-! BoxSpiderModel.liesAt, method 141 -/
def f_Mod_liesAt (sg : Hp) (x1 : Int32) (x2 : Int32) (x3 : Int32) : Option (Int32 × Hp) :=
  (f_Mod_imageOf sg x1 x2 x3 ((3 : Int32) * x3)).bind fun y1 =>
    some (y1.1, y1.2)
/-! BoxSpiderModel.liesOf, method 140 -/
def f_Mod_liesOf (sg : Hp) (x1 : Int32) (x2 : Int32) (x3 : Int32) : Option (Int32 × Hp) :=
  (f_Mod_goesTo sg x2).bind fun y1 =>
    (f_Mod_faceAt y1 x2).bind fun y2 =>
      (f_Mod_isOn y2.2 y2.1 x1).bind fun y3 =>
        if y3.1 = (0 : Int32) then
          some ((-10003 : Int32), y3.2)
        else
          (f_Mod_liesAt y3.2 x1 x2 x3).bind fun y4 =>
            some (y4.1, y4.2)
/-! BoxSpiderModel.lies, method 139 -/
def f_Mod_lies (sg : Hp) (x1 : Int32) (x2 : Int32) (x3 : Int32) : Option (Int32 × Hp) :=
  (f_Mod_isPlace sg x1).bind fun y1 =>
    if y1.1 = (0 : Int32) then
      some ((-10002 : Int32), y1.2)
    else
      (f_Mod_rolls y1.2 ).bind fun y2 =>
        (f_Mod_in y2.2 (x2).toInt64 (0 : Int64) (y2.1).toInt64).bind fun y3 =>
          if y3.1 = (0 : Int32) then
            some ((-10002 : Int32), y3.2)
          else
            (f_Mod_isTwo y3.2 x3).bind fun y4 =>
              if y4.1 = (0 : Int32) then
                some ((-10002 : Int32), y4.2)
              else
                (f_Mod_liesOf y4.2 x1 x2 x3).bind fun y5 =>
                  some (y5.1, y5.2)
/-! BoxSpider$Line.begin, method 51 -/
def f_Line_begin (sg : Hp) (a0 : Nat) (x1 : Int32) (x2 : Int32) : Option (Hp) :=
  (some (w2 sg a0 0 x1)).bind fun s1 =>
    (some (w2 s1 a0 1 x2)).bind fun s2 =>
      some s2
/-! BoxSpider$Line.end, method 52 -/
def f_Line_end (sg : Hp) (a0 : Nat) (x1 : Int32) (x2 : Int32) : Option (Hp) :=
  (some (w2 sg a0 2 x1)).bind fun s1 =>
    (some (w2 s1 a0 3 x2)).bind fun s2 =>
      some s2
/-! BoxSpider$Line.square, method 53 -/
def f_Line_square (sg : Hp) (a0 : Nat) : Option (Int32 × Hp) :=
  some (((((sg a0 2) - (sg a0 0)) * ((sg a0 2) - (sg a0 0))) + (((sg a0 3) - (sg a0 1)) * ((sg a0 3) - (sg a0 1)))), sg)
/-! BoxSpider$Line.meets, method 54 -/
def f_Line_meets_230  (sg : Hp) (x4 : Int32) (x5 : Int32) (x6 : Int32) (x7 : Int32) (x8 : Int32) : Option (Int32 × Hp) :=
  if x6 < (0 : Int32) then
    some ((0 : Int32), sg)
  else
    if x4 < x6 then
      some ((0 : Int32), sg)
    else
      if (x5 * x6) < (x7 * x4) then
        some ((0 : Int32), sg)
      else
        if (x8 * x4) < (x5 * x6) then
          some ((0 : Int32), sg)
        else
          some ((1 : Int32), sg)
def f_Line_meets_209  (sg : Hp)  : Option (Int32 × Hp) :=
  some ((1 : Int32), sg)
def f_Line_meets_197  (sg : Hp) (x5 : Int32) (x8 : Int32) : Option (Int32 × Hp) :=
  if (0 : Int32) ≤ x8 then
    f_Line_meets_209  sg 
  else
    if x8 < x5 then
      some ((0 : Int32), sg)
    else
      f_Line_meets_209  sg 
def f_Line_meets_175  (sg : Hp) (x4 : Int32) (x5 : Int32) (x6 : Int32) (x7 : Int32) (x8 : Int32) : Option (Int32 × Hp) :=
  if x4 = (0 : Int32) then
    if x6 = (0 : Int32) then
      if x7 ≤ (0 : Int32) then
        f_Line_meets_197  sg x5 x8
      else
        if x5 < x7 then
          some ((0 : Int32), sg)
        else
          f_Line_meets_197  sg x5 x8
    else
      some ((0 : Int32), sg)
  else
    if (0 : Int32) ≤ x4 then
      f_Line_meets_230  sg x4 x5 x6 x7 x8
    else
      f_Line_meets_230  sg (-x4) x5 (-x6) x7 x8
def f_Line_meets_141  (sg : Hp) (a1 : Nat) (x2 : Int32) (x4 : Int32) (x5 : Int32) (x6 : Int32) (x7 : Int32) (xs0 : Int32) (xs1 : Int32) : Option (Int32 × Hp) :=
  if x2 = (1 : Int32) then
    f_Line_meets_175  sg x4 x5 (x6 + (sg a1 5)) x7 (xs0 + xs1)
  else
    if x2 = (3 : Int32) then
      f_Line_meets_175  sg x4 x5 (x6 + (sg a1 6)) x7 (xs0 + xs1)
    else
      f_Line_meets_175  sg x4 x5 x6 x7 (xs0 + xs1)
def f_Line_meets_122  (sg : Hp) (a1 : Nat) (x2 : Int32) (x3 : Int32) (x4 : Int32) (x5 : Int32) (x6 : Int32) (xs0 : Int32) : Option (Int32 × Hp) :=
  if x3 = (0 : Int32) then
    f_Line_meets_141  sg a1 x2 x4 x5 x6 xs0 xs0 (sg a1 5)
  else
    f_Line_meets_141  sg a1 x2 x4 x5 x6 xs0 xs0 (sg a1 6)
def f_Line_meets_95  (sg : Hp) (a0 : Nat) (a1 : Nat) (x2 : Int32) (x3 : Int32) (x4 : Int32) (x5 : Int32) (xs0 : Int32) : Option (Int32 × Hp) :=
  if x3 = (0 : Int32) then
    f_Line_meets_122  sg a1 x2 x3 x4 x5 xs0 ((sg a1 3) - (sg a0 0))
  else
    f_Line_meets_122  sg a1 x2 x3 x4 x5 xs0 ((sg a1 4) - (sg a0 1))
def f_Line_meets_68  (sg : Hp) (a0 : Nat) (a1 : Nat) (x2 : Int32) (x3 : Int32) (x4 : Int32) (xs0 : Int32) : Option (Int32 × Hp) :=
  if x3 = (0 : Int32) then
    f_Line_meets_95  sg a0 a1 x2 x3 x4 xs0 ((sg a1 4) - (sg a0 1))
  else
    f_Line_meets_95  sg a0 a1 x2 x3 x4 xs0 ((sg a1 3) - (sg a0 0))
def f_Line_meets_41  (sg : Hp) (a0 : Nat) (a1 : Nat) (x2 : Int32) (x3 : Int32) (xs0 : Int32) : Option (Int32 × Hp) :=
  if x3 = (0 : Int32) then
    f_Line_meets_68  sg a0 a1 x2 x3 xs0 ((sg a0 2) - (sg a0 0))
  else
    f_Line_meets_68  sg a0 a1 x2 x3 xs0 ((sg a0 3) - (sg a0 1))
def f_Line_meets_15  (sg : Hp) (a0 : Nat) (a1 : Nat) (x2 : Int32) (xs0 : Int32) : Option (Int32 × Hp) :=
  if xs0 = (0 : Int32) then
    f_Line_meets_41  sg a0 a1 x2 xs0 ((sg a0 3) - (sg a0 1))
  else
    f_Line_meets_41  sg a0 a1 x2 xs0 ((sg a0 2) - (sg a0 0))
def f_Line_meets_10  (sg : Hp) (a0 : Nat) (a1 : Nat) (x2 : Int32) : Option (Int32 × Hp) :=
  f_Line_meets_15  sg a0 a1 x2 (1 : Int32)
def f_Line_meets (sg : Hp) (a0 : Nat) (a1 : Nat) (x2 : Int32) : Option (Int32 × Hp) :=
  if x2 = (1 : Int32) then
    f_Line_meets_10  sg a0 a1 x2
  else
    if x2 = (2 : Int32) then
      f_Line_meets_10  sg a0 a1 x2
    else
      f_Line_meets_15  sg a0 a1 x2 (0 : Int32)
/-! BoxSpider$Search.packedRow, method 55 -/
def f_Search_packedRow_4  : Nat → Hp → Int32 → Int32 → Int32 → Option (Int32 × Hp)
  | 0, _, _, _, _ => none
  | n + 1, sg, x1, x2, x3 =>
    if x1 < x3 then
      some (x2, sg)
    else
      if inb x3 5 = true then
        f_Search_packedRow_4 n sg x1 (x2 ||| (((sg (rt 17 (x3).toNatClampNeg) 0) + (1 : Int32)) <<< (((3 : Int32) * x3) &&& 31))) (x3 + (1 : Int32))
      else none
def f_Search_packedRow (sg : Hp) (x1 : Int32) : Option (Int32 × Hp) :=
  f_Search_packedRow_4  LF sg x1 (0 : Int32) (0 : Int32)
/-! BoxSpider$Search.weigh, method 50 -/
def f_Search_weigh_181  (sg : Hp) (x1 : Int32) (x2 : Int32) : Option (Hp) :=
  (some (w2 sg 11 7 x2)).bind fun s11 =>
    (some (w2 s11 11 10 (x1 + (1 : Int32)))).bind fun s12 =>
      (f_Search_packedRow s12 x1).bind fun y13 =>
        (some (w2 y13.2 11 9 y13.1)).bind fun s14 =>
          some s14
def f_Search_weigh_164  (sg : Hp) (x1 : Int32) (x2 : Int32) (x3 : Int32) (xs1 : Int32) : Option (Hp) :=
  (some (w2 sg 11 8 xs1)).bind fun s10 =>
    if x3 = (0 : Int32) then
      if (s10 11 10) ≤ (x1 + (1 : Int32)) then
        some s10
      else
        f_Search_weigh_181  s10 x1 x2
    else
      f_Search_weigh_181  s10 x1 x2
def f_Search_weigh_148  (sg : Hp) (x1 : Int32) (x2 : Int32) (xs0 : Int32) : Option (Hp) :=
  if xs0 = (0 : Int32) then
    f_Search_weigh_164  sg x1 x2 xs0 ((sg 11 8) + (1 : Int32))
  else
    f_Search_weigh_164  sg x1 x2 xs0 (1 : Int32)
def f_Search_weigh_143  (sg : Hp) (x1 : Int32) (x2 : Int32) : Option (Hp) :=
  f_Search_weigh_148  sg x1 x2 (1 : Int32)
def f_Search_weigh_93  : Nat → Hp → Int32 → Int32 → Int32 → Option (Hp)
  | 0, _, _, _, _ => none
  | n + 1, sg, x1, x2, x3 =>
    if x1 ≤ x3 then
      if (sg 11 7) = (-1 : Int32) then
        f_Search_weigh_143  sg x1 x2
      else
        if (sg 11 7) ≤ x2 then
          f_Search_weigh_148  sg x1 x2 (0 : Int32)
        else
          f_Search_weigh_143  sg x1 x2
    else
      if inb x3 5 = true then
        if inb x3 5 = true then
          (f_Line_meets sg 16 (rt 17 (x3).toNatClampNeg) (sg 18 (x3).toNatClampNeg)).bind fun y17 =>
            if y17.1 = (0 : Int32) then
              some y17.2
            else
              f_Search_weigh_93 n y17.2 x1 x2 (x3 + (1 : Int32))
        else none
      else none
def f_Search_weigh_91  (sg : Hp) (x1 : Int32) (x2 : Int32) : Option (Hp) :=
  f_Search_weigh_93  LF sg x1 x2 (0 : Int32)
def f_Search_weigh (sg : Hp) (x1 : Int32) : Option (Hp) :=
  (f_Stand_planeX sg 19 12).bind fun y1 =>
    (f_Stand_planeY y1.2 19 12).bind fun y2 =>
      (f_Line_begin y2.2 16 y1.1 y2.1).bind fun y3 =>
        if inb x1 5 = true then
          (f_Stand_planeX y3 (rt 17 (x1).toNatClampNeg) 14).bind fun y5 =>
            if inb x1 5 = true then
              (f_Stand_planeY y5.2 (rt 17 (x1).toNatClampNeg) 14).bind fun y7 =>
                (f_Line_end y7.2 16 y5.1 y7.1).bind fun y8 =>
                  (f_Line_square y8 16).bind fun y9 =>
                    if (y9.2 11 7) = (-1 : Int32) then
                      f_Search_weigh_91  y9.2 x1 y9.1
                    else
                      if y9.1 ≤ (y9.2 11 7) then
                        f_Search_weigh_91  y9.2 x1 y9.1
                      else
                        some y9.2
            else none
        else none
/-! BoxSpider$Stand.rollTo, method 56 -/
def f_Stand_rollTo (sg : Hp) (a0 : Nat) (x1 : Int32) : Option (Int32 × Hp) :=
  if x1 = (sg a0 1) then
    some ((1 : Int32), sg)
  else
    if x1 = ((sg a0 1) ^^^ (1 : Int32)) then
      some ((2 : Int32), sg)
    else
      if x1 = (sg a0 2) then
        some ((3 : Int32), sg)
      else
        if x1 = ((sg a0 2) ^^^ (1 : Int32)) then
          some ((4 : Int32), sg)
        else
          some ((0 : Int32), sg)
/-! BoxSpider$Stand.follow, method 57 -/
def f_Stand_follow (sg : Hp) (a0 : Nat) (a1 : Nat) (x2 : Int32) : Option (Hp) :=
  (some (w2 sg a0 0 (sg a1 0))).bind fun s1 =>
    (some (w2 s1 a0 1 (s1 a1 1))).bind fun s2 =>
      (some (w2 s2 a0 2 (s2 a1 2))).bind fun s3 =>
        (some (w2 s3 a0 3 (s3 a1 3))).bind fun s4 =>
          (some (w2 s4 a0 4 (s4 a1 4))).bind fun s5 =>
            (some (w2 s5 a0 5 (s5 a1 5))).bind fun s6 =>
              (some (w2 s6 a0 6 (s6 a1 6))).bind fun s7 =>
                (some (w2 s7 a0 7 (s7 a1 7))).bind fun s8 =>
                  (f_Stand_roll s8 a0 x2).bind fun y9 =>
                    some y9
/-! BoxSpider$Search.extend, method 49 -/
def f_Search_extend_144 (rc : Hp → Int32 → Int32 → Option (Hp)) (k86 : Hp → Int32 → Int32 → Nat → Int32 → Int32 → Int32 → Option (Hp)) (sg : Hp) (x1 : Int32) (x2 : Int32) (a3 : Nat) (x4 : Int32) (x5 : Int32) (x6 : Int32) : Option (Hp) :=
  k86 sg x1 x2 a3 x4 x5 (x6 + (1 : Int32))
def f_Search_extend_86 (rc : Hp → Int32 → Int32 → Option (Hp)) : Nat → Hp → Int32 → Int32 → Nat → Int32 → Int32 → Int32 → Option (Hp)
  | 0, _, _, _, _, _, _, _ => none
  | n + 1, sg, x1, x2, a3, x4, x5, x6 =>
    if (6 : Int32) ≤ x6 then
      some sg
    else
      if ((x5 >>> (x6 &&& 31)) &&& (1 : Int32)) = (0 : Int32) then
        (f_Stand_rollTo sg a3 x6).bind fun y3 =>
          if inb x1 5 = true then
            (some (w2 y3.2 18 (x1).toNatClampNeg y3.1)).bind fun s5 =>
              if inb x4 5 = true then
                if inb x1 5 = true then
                  (f_Stand_follow s5 (rt 17 (x4).toNatClampNeg) a3 (s5 18 (x1).toNatClampNeg)).bind fun y8 =>
                    (rc y8 x4 (x2 ||| ((1 : Int32) <<< (x6 &&& 31)))).bind fun y9 =>
                      f_Search_extend_144 rc (f_Search_extend_86 rc n) y9 x1 x2 a3 x4 x5 x6
                else none
              else none
          else none
      else
        f_Search_extend_144 rc (f_Search_extend_86 rc n) sg x1 x2 a3 x4 x5 x6
def f_Search_extend_83 (rc : Hp → Int32 → Int32 → Option (Hp)) (sg : Hp) (x1 : Int32) (x2 : Int32) (a3 : Nat) (x4 : Int32) (x5 : Int32) : Option (Hp) :=
  f_Search_extend_86 rc LF sg x1 x2 a3 x4 x5 (0 : Int32)
def f_Search_extend_27 (rc : Hp → Int32 → Int32 → Option (Hp)) (sg : Hp) (x1 : Int32) (x2 : Int32) (a3 : Nat) : Option (Hp) :=
  if (x1 + (1 : Int32)) < (5 : Int32) then
    if inb (sg a3 0) 6 = true then
      if ((x1 + (1 : Int32)) + (1 : Int32)) = (5 : Int32) then
        f_Search_extend_83 rc sg x1 x2 a3 (x1 + (1 : Int32)) (((x2 ||| (sg 6 ((sg a3 0)).toNatClampNeg)) ||| ((1 : Int32) <<< (((sg a3 0) ^^^ (1 : Int32)) &&& 31))) ||| ((sg 11 6) ^^^ (-1 : Int32)))
      else
        f_Search_extend_83 rc sg x1 x2 a3 (x1 + (1 : Int32)) ((x2 ||| (sg 6 ((sg a3 0)).toNatClampNeg)) ||| ((1 : Int32) <<< (((sg a3 0) ^^^ (1 : Int32)) &&& 31)))
    else none
  else
    some sg
def f_Search_extend : Nat → Hp → Int32 → Int32 → Option (Hp)
  | 0, _, _, _ => none
  | r + 1, sg, x1, x2 =>
    let rc := f_Search_extend r
    if inb x1 5 = true then
      if (((sg 11 6) >>> ((sg (rt 17 (x1).toNatClampNeg) 0) &&& 31)) &&& (1 : Int32)) = (1 : Int32) then
        (f_Search_weigh sg x1).bind fun y10 =>
          f_Search_extend_27 rc y10 x1 x2 (rt 17 (x1).toNatClampNeg)
      else
        f_Search_extend_27 rc sg x1 x2 (rt 17 (x1).toNatClampNeg)
    else none
/-! BoxSpider$Search.find, method 48 -/
def f_Search_find_69 (k33 : Hp → Nat → Int32 → Option (Hp)) (sg : Hp) (a1 : Nat) (x2 : Int32) : Option (Hp) :=
  k33 sg a1 (x2 + (1 : Int32))
def f_Search_find_33  : Nat → Hp → Nat → Int32 → Option (Hp)
  | 0, _, _, _ => none
  | n + 1, sg, a1, x2 =>
    if (6 : Int32) ≤ x2 then
      some sg
    else
      (f_Spot_isOn sg 12 x2).bind fun y7 =>
        if y7.1 = (0 : Int32) then
          f_Search_find_69 (f_Search_find_33 n) y7.2 a1 x2
        else
          (f_Stand_start y7.2 19 x2 a1).bind fun y8 =>
            (f_Search_extend 6 y8 (0 : Int32) ((1 : Int32) <<< (x2 &&& 31))).bind fun y9 =>
              f_Search_find_69 (f_Search_find_33 n) y9 a1 x2
def f_Search_find (sg : Hp) (a1 : Nat) : Option (Hp) :=
  (f_Spot_wallBits sg 14).bind fun y1 =>
    (some (w2 y1.2 11 6 y1.1)).bind fun s2 =>
      (some (w2 s2 11 7 (-1 : Int32))).bind fun s3 =>
        (some (w2 s3 11 8 (0 : Int32))).bind fun s4 =>
          (some (w2 s4 11 9 (0 : Int32))).bind fun s5 =>
            (some (w2 s5 11 10 (0 : Int32))).bind fun s6 =>
              f_Search_find_33  LF s6 a1 (0 : Int32)
/-! BoxSpider$Table.look, method 47 -/
def f_Table_look (sg : Hp) (x1 : Int32) (x2 : Int32) : Option (Int32 × Hp) :=
  if inb (((8 : Int32) * x1) + x2) 64 = true then
    if (sg 28 ((((8 : Int32) * x1) + x2)).toNatClampNeg) = (sg 1 6) then
      some ((((8 : Int32) * x1) + x2), sg)
    else
      (f_Room_spotOf sg x1 12).bind fun y2 =>
        (f_Room_spotOf y2 x2 14).bind fun y3 =>
          (f_Search_find y3 2).bind fun y4 =>
            if inb (((8 : Int32) * x1) + x2) 64 = true then
              (some (w2 y4 25 ((((8 : Int32) * x1) + x2)).toNatClampNeg (y4 11 7))).bind fun s6 =>
                if inb (((8 : Int32) * x1) + x2) 64 = true then
                  (some (w2 s6 26 ((((8 : Int32) * x1) + x2)).toNatClampNeg (s6 11 8))).bind fun s8 =>
                    if inb (((8 : Int32) * x1) + x2) 64 = true then
                      (some (w2 s8 27 ((((8 : Int32) * x1) + x2)).toNatClampNeg (s8 11 9))).bind fun s10 =>
                        if inb (((8 : Int32) * x1) + x2) 64 = true then
                          (some (w2 s10 28 ((((8 : Int32) * x1) + x2)).toNatClampNeg (s10 1 6))).bind fun s12 =>
                            some ((((8 : Int32) * x1) + x2), s12)
                        else none
                    else none
                else none
            else none
  else none
/-! BoxSpider.shortest, method 46 -/
def f_Box_shortest (sg : Hp) (x1 : Int32) (x2 : Int32) : Option (Int32 × Hp) :=
  (f_Box_isPlace sg x1).bind fun y1 =>
    if y1.1 = (0 : Int32) then
      some ((-2 : Int32), y1.2)
    else
      (f_Box_isPlace y1.2 x2).bind fun y2 =>
        if y2.1 = (0 : Int32) then
          some ((-2 : Int32), y2.2)
        else
          (f_Table_look y2.2 x1 x2).bind fun y3 =>
            if inb y3.1 64 = true then
              some ((y3.2 25 (y3.1).toNatClampNeg), y3.2)
            else none
/-! BoxSpiderModel.standsOn, method 146 -/
def f_Mod_standsOn_75 (k60 : Hp → Int32 → Int32 → Int32 → Option (Hp)) : Nat → Hp → Int32 → Int32 → Int32 → Int32 → Option (Hp)
  | 0, _, _, _, _, _ => none
  | n + 1, sg, x2, x3, x4, x5 =>
    if (14 : Int32) ≤ x5 then
      k60 sg x2 x3 (x4 + (1 : Int32))
    else
      if inb ((14 : Int32) + x5) 560 = true then
        if inb x5 560 = true then
          (some (w2 sg 55 (x5).toNatClampNeg (sg 55 (((14 : Int32) + x5)).toNatClampNeg))).bind fun s5 =>
            f_Mod_standsOn_75 k60 n s5 x2 x3 x4 (x5 + (1 : Int32))
        else none
      else none
def f_Mod_standsOn_60  : Nat → Hp → Int32 → Int32 → Int32 → Option (Hp)
  | 0, _, _, _, _ => none
  | n + 1, sg, x2, x3, x4 =>
    if x3 ≤ x4 then
      some sg
    else
      (f_Mod_turns sg (0 : Int32) x2).bind fun y2 =>
        f_Mod_standsOn_75 (f_Mod_standsOn_60 n) LF y2 x2 x3 x4 (0 : Int32)
def f_Mod_standsOn_56  (sg : Hp) (x2 : Int32) (xs0 : Int32) : Option (Hp) :=
  f_Mod_standsOn_60  LF sg x2 xs0 (0 : Int32)
def f_Mod_standsOn_37  (sg : Hp) (x1 : Int32) (xs0 : Int32) : Option (Hp) :=
  if x1 = (0 : Int32) then
    f_Mod_standsOn_56  sg xs0 (0 : Int32)
  else
    if x1 = (1 : Int32) then
      f_Mod_standsOn_56  sg xs0 (2 : Int32)
    else
      f_Mod_standsOn_56  sg xs0 (1 : Int32)
def f_Mod_standsOn_14  (sg : Hp) (x1 : Int32) : Option (Hp) :=
  f_Mod_standsOn_37  sg x1 (0 : Int32)
def f_Mod_standsOn (sg : Hp) (x1 : Int32) : Option (Hp) :=
  (f_Mod_begins sg ).bind fun y1 =>
    if x1 = (3 : Int32) then
      f_Mod_standsOn_14  y1 x1
    else
      if x1 = (1 : Int32) then
        f_Mod_standsOn_14  y1 x1
      else
        if x1 = (2 : Int32) then
          f_Mod_standsOn_37  y1 x1 (1 : Int32)
        else
          if x1 = (5 : Int32) then
            f_Mod_standsOn_37  y1 x1 (2 : Int32)
          else
            f_Mod_standsOn_37  y1 x1 (3 : Int32)
/-! BoxSpiderModel.isIn, method 148 -/
def f_Mod_isIn (sg : Hp) (x0 : Int32) (x1 : Int32) : Option (Int32 × Hp) :=
  if ((x0 >>> (x1 &&& 31)) &&& (1 : Int32)) = (1 : Int32) then
    some ((1 : Int32), sg)
  else
    some ((0 : Int32), sg)
/-! BoxSpiderModel.lesser, method 150 -/
def f_Mod_lesser (sg : Hp) (x0 : Int32) (x1 : Int32) : Option (Int32 × Hp) :=
  if x1 ≤ x0 then
    some (x1, sg)
  else
    some (x0, sg)
/-! BoxSpiderModel.greater, method 151 -/
def f_Mod_greater (sg : Hp) (x0 : Int32) (x1 : Int32) : Option (Int32 × Hp) :=
  if x0 ≤ x1 then
    some (x1, sg)
  else
    some (x0, sg)
/-! BoxSpiderModel.meets, method 149 -/
def f_Mod_meets_193  (sg : Hp) (x7 : Int32) (x8 : Int32) (x9 : Int32) (x10 : Int32) (x11 : Int32) (x12 : Int32) (x13 : Int32) (xs0 : Int32) : Option (Int32 × Hp) :=
  (f_Mod_in sg (((x12 * (xs0 * (x11 - x10))) + ((xs0 * (x13 - x12)) * (x7 - x10)))).toInt64 ((x8 * (xs0 * (x11 - x10)))).toInt64 ((x9 * (xs0 * (x11 - x10)))).toInt64).bind fun y8 =>
    if y8.1 = 0 ∨ y8.1 = 1 then some (y8.1, y8.2) else none
def f_Mod_meets_105  (sg : Hp) (x7 : Int32) (x8 : Int32) (x9 : Int32) (x10 : Int32) (x11 : Int32) (x12 : Int32) (xs0 : Int32) : Option (Int32 × Hp) :=
  if x10 = x11 then
    if x10 = x7 then
      (f_Mod_lesser sg x12 xs0).bind fun y9 =>
        (f_Mod_greater y9.2 y9.1 x8).bind fun y10 =>
          (f_Mod_greater y10.2 x12 xs0).bind fun y11 =>
            (f_Mod_lesser y11.2 y11.1 x9).bind fun y12 =>
              if y12.1 < y10.1 then
                some ((0 : Int32), y12.2)
              else
                some ((1 : Int32), y12.2)
    else
      some ((0 : Int32), sg)
  else
    (f_Mod_lesser sg x10 x11).bind fun y5 =>
      (f_Mod_greater y5.2 x10 x11).bind fun y6 =>
        (f_Mod_in y6.2 (x7).toInt64 (y5.1).toInt64 (y6.1).toInt64).bind fun y7 =>
          if y7.1 = (0 : Int32) then
            some ((0 : Int32), y7.2)
          else
            if x11 ≤ x10 then
              f_Mod_meets_193  y7.2 x7 x8 x9 x10 x11 x12 xs0 (-1 : Int32)
            else
              f_Mod_meets_193  y7.2 x7 x8 x9 x10 x11 x12 xs0 (1 : Int32)
def f_Mod_meets_91  (sg : Hp) (x4 : Int32) (x5 : Int32) (x6 : Int32) (x7 : Int32) (x8 : Int32) (x9 : Int32) (x10 : Int32) (x11 : Int32) (xs0 : Int32) : Option (Int32 × Hp) :=
  if x6 = (0 : Int32) then
    f_Mod_meets_105  sg x7 x8 x9 x10 x11 xs0 x4
  else
    f_Mod_meets_105  sg x7 x8 x9 x10 x11 xs0 x5
def f_Mod_meets_79  (sg : Hp) (x2 : Int32) (x3 : Int32) (x4 : Int32) (x5 : Int32) (x6 : Int32) (x7 : Int32) (x8 : Int32) (x9 : Int32) (x10 : Int32) (xs0 : Int32) : Option (Int32 × Hp) :=
  if x6 = (0 : Int32) then
    f_Mod_meets_91  sg x4 x5 x6 x7 x8 x9 x10 xs0 x2
  else
    f_Mod_meets_91  sg x4 x5 x6 x7 x8 x9 x10 xs0 x3
def f_Mod_meets_65  (sg : Hp) (x2 : Int32) (x3 : Int32) (x4 : Int32) (x5 : Int32) (x6 : Int32) (x7 : Int32) (x8 : Int32) (x9 : Int32) (xs0 : Int32) : Option (Int32 × Hp) :=
  if x6 = (0 : Int32) then
    f_Mod_meets_79  sg x2 x3 x4 x5 x6 x7 x8 x9 xs0 x5
  else
    f_Mod_meets_79  sg x2 x3 x4 x5 x6 x7 x8 x9 xs0 x4
def f_Mod_meets_17  (sg : Hp) (x1 : Int32) (x2 : Int32) (x3 : Int32) (x4 : Int32) (x5 : Int32) (xs0 : Int32) : Option (Int32 × Hp) :=
  if inb (((4 : Int32) * x1) + (1 : Int32)) 160 = true then
    if inb (((4 : Int32) * x1) + (2 : Int32)) 160 = true then
      if inb (((4 : Int32) * x1) + (3 : Int32)) 160 = true then
        if xs0 = (0 : Int32) then
          f_Mod_meets_65  sg x2 x3 x4 x5 xs0 (sg 56 ((((4 : Int32) * x1) + (1 : Int32))).toNatClampNeg) (sg 56 ((((4 : Int32) * x1) + (2 : Int32))).toNatClampNeg) (sg 56 ((((4 : Int32) * x1) + (3 : Int32))).toNatClampNeg) x3
        else
          f_Mod_meets_65  sg x2 x3 x4 x5 xs0 (sg 56 ((((4 : Int32) * x1) + (1 : Int32))).toNatClampNeg) (sg 56 ((((4 : Int32) * x1) + (2 : Int32))).toNatClampNeg) (sg 56 ((((4 : Int32) * x1) + (3 : Int32))).toNatClampNeg) x2
      else none
    else none
  else none
def f_Mod_meets (sg : Hp) (x1 : Int32) (x2 : Int32) (x3 : Int32) (x4 : Int32) (x5 : Int32) : Option (Int32 × Hp) :=
  if inb ((4 : Int32) * x1) 160 = true then
    if (sg 56 (((4 : Int32) * x1)).toNatClampNeg) = (1 : Int32) then
      f_Mod_meets_17  sg x1 x2 x3 x4 x5 (1 : Int32)
    else
      f_Mod_meets_17  sg x1 x2 x3 x4 x5 (0 : Int32)
  else none
/-! BoxSpiderModel.lineOf, method 147 -/
def f_Mod_lineOf_107 (k44 : Hp → Int32 → Int32 → Int32 → Int32 → Int32 → Int32 → Int32 → Option (Int32 × Hp)) (sg : Hp) (x4 : Int32) (x5 : Int32) (x6 : Int32) (x7 : Int32) (x8 : Int32) (x10 : Int32) (xs0 : Int32) : Option (Int32 × Hp) :=
  k44 sg x4 x5 x6 x7 x8 xs0 (x10 + (1 : Int32))
def f_Mod_lineOf_106 (k44 : Hp → Int32 → Int32 → Int32 → Int32 → Int32 → Int32 → Int32 → Option (Int32 × Hp)) (sg : Hp) (x4 : Int32) (x5 : Int32) (x6 : Int32) (x7 : Int32) (x8 : Int32) (x10 : Int32) : Option (Int32 × Hp) :=
  f_Mod_lineOf_107 k44 sg x4 x5 x6 x7 x8 x10 (0 : Int32)
def f_Mod_lineOf_44  : Nat → Hp → Int32 → Int32 → Int32 → Int32 → Int32 → Int32 → Int32 → Option (Int32 × Hp)
  | 0, _, _, _, _, _, _, _, _ => none
  | n + 1, sg, x4, x5, x6, x7, x8, x9, x10 =>
    if x4 ≤ x10 then
      if x9 = (0 : Int32) then
        some ((-1 : Int32), sg)
      else
        some ((((x7 - x5) * (x7 - x5)) + ((x8 - x6) * (x8 - x6))), sg)
    else
      (f_Mod_faceAt sg x10).bind fun y5 =>
        if inb y5.1 6 = true then
          (f_Mod_faceAt y5.2 (x10 + (1 : Int32))).bind fun y7 =>
            (f_Mod_isIn y7.2 (y5.2 53 (y5.1).toNatClampNeg) y7.1).bind fun y8 =>
              if x9 = (0 : Int32) then
                f_Mod_lineOf_106 (f_Mod_lineOf_44 n) y8.2 x4 x5 x6 x7 x8 x10
              else
                if y8.1 = (0 : Int32) then
                  (f_Mod_meets y8.2 x10 x5 x6 x7 x8).bind fun y9 =>
                    if y9.1 = (0 : Int32) then
                      f_Mod_lineOf_106 (f_Mod_lineOf_44 n) y9.2 x4 x5 x6 x7 x8 x10
                    else
                      f_Mod_lineOf_107 (f_Mod_lineOf_44 n) y9.2 x4 x5 x6 x7 x8 x10 (1 : Int32)
                else
                  f_Mod_lineOf_106 (f_Mod_lineOf_44 n) y8.2 x4 x5 x6 x7 x8 x10
        else none
def f_Mod_lineOf (sg : Hp) (x1 : Int32) (x2 : Int32) (x3 : Int32) (x4 : Int32) : Option (Int32 × Hp) :=
  (f_Mod_liesAt sg x1 x2 (0 : Int32)).bind fun y1 =>
    (f_Mod_liesAt y1.2 x1 x2 (1 : Int32)).bind fun y2 =>
      (f_Mod_liesAt y2.2 x3 x4 (0 : Int32)).bind fun y3 =>
        (f_Mod_liesAt y3.2 x3 x4 (1 : Int32)).bind fun y4 =>
          f_Mod_lineOf_44  LF y4.2 x4 y1.1 y2.1 y3.1 y4.1 (1 : Int32) x2
/-! BoxSpiderModel.isAhead, method 153 -/
def f_Mod_isAhead_69  (sg : Hp) (x3 : Int32) : Option (Int32 × Hp) :=
  if inb x3 5 = true then
    if inb x3 5 = true then
      if (sg 57 (x3).toNatClampNeg) ≤ (sg 58 (x3).toNatClampNeg) then
        some ((0 : Int32), sg)
      else
        some ((1 : Int32), sg)
    else none
  else none
def f_Mod_isAhead_41  : Nat → Hp → Int32 → Int32 → Option (Int32 × Hp)
  | 0, _, _, _ => none
  | n + 1, sg, x1, x3 =>
    if (x1 - (1 : Int32)) ≤ x3 then
      f_Mod_isAhead_69  sg x3
    else
      if inb x3 5 = true then
        if inb x3 5 = true then
          if (sg 58 (x3).toNatClampNeg) = (sg 57 (x3).toNatClampNeg) then
            f_Mod_isAhead_41 n sg x1 (x3 + (1 : Int32))
          else
            f_Mod_isAhead_69  sg x3
        else none
      else none
def f_Mod_isAhead_23  (sg : Hp) (x1 : Int32) (x2 : Int32) : Option (Int32 × Hp) :=
  if x1 = x2 then
    f_Mod_isAhead_41  LF sg x1 (0 : Int32)
  else
    if x2 ≤ x1 then
      some ((0 : Int32), sg)
    else
      some ((1 : Int32), sg)
def f_Mod_isAhead_2  : Nat → Hp → Int32 → Int32 → Option (Int32 × Hp)
  | 0, _, _, _ => none
  | n + 1, sg, x1, x2 =>
    if (5 : Int32) ≤ x2 then
      f_Mod_isAhead_23  sg x1 x2
    else
      if inb x2 5 = true then
        if (sg 57 (x2).toNatClampNeg) = (-1 : Int32) then
          f_Mod_isAhead_23  sg x1 x2
        else
          f_Mod_isAhead_2 n sg x1 (x2 + (1 : Int32))
      else none
def f_Mod_isAhead (sg : Hp) (x1 : Int32) : Option (Int32 × Hp) :=
  f_Mod_isAhead_2  LF sg x1 (0 : Int32)
/-! BoxSpiderModel.keeps, method 152 -/
def f_Mod_keeps_113  (sg : Hp) (x1 : Int32) : Option (Hp) :=
  (some (w2 sg 46 12 x1)).bind fun s2 =>
    some s2
def f_Mod_keeps_106 (k77 : Hp → Int32 → Int32 → Int32 → Option (Hp)) (sg : Hp) (x1 : Int32) (x2 : Int32) (x4 : Int32) (xs1 : Int32) (xs2 : Int32) : Option (Hp) :=
  if inb xs1 5 = true then
    (some (w2 sg 57 (xs1).toNatClampNeg xs2)).bind fun s4 =>
      k77 s4 x1 x2 (x4 + (1 : Int32))
  else none
def f_Mod_keeps_77  : Nat → Hp → Int32 → Int32 → Int32 → Option (Hp)
  | 0, _, _, _, _ => none
  | n + 1, sg, x1, x2, x4 =>
    if (5 : Int32) ≤ x4 then
      f_Mod_keeps_113  sg x1
    else
      if x2 ≤ x4 then
        f_Mod_keeps_106 (f_Mod_keeps_77 n) sg x1 x2 x4 x4 (-1 : Int32)
      else
        if inb x4 5 = true then
          f_Mod_keeps_106 (f_Mod_keeps_77 n) sg x1 x2 x4 x4 (sg 58 (x4).toNatClampNeg)
        else none
def f_Mod_keeps_74  (sg : Hp) (x1 : Int32) (x2 : Int32) : Option (Hp) :=
  f_Mod_keeps_77  LF sg x1 x2 (0 : Int32)
def f_Mod_keeps_59  (sg : Hp) (x1 : Int32) (x2 : Int32) (x3 : Int32) (xs1 : Int32) : Option (Hp) :=
  (some (w2 sg 46 13 xs1)).bind fun s1 =>
    if x3 = (0 : Int32) then
      (f_Mod_isAhead s1 x2).bind fun y6 =>
        if y6.1 = (0 : Int32) then
          f_Mod_keeps_113  y6.2 x1
        else
          f_Mod_keeps_74  y6.2 x1 x2
    else
      f_Mod_keeps_74  s1 x1 x2
def f_Mod_keeps_43  (sg : Hp) (x1 : Int32) (x2 : Int32) (xs0 : Int32) : Option (Hp) :=
  if xs0 = (0 : Int32) then
    f_Mod_keeps_59  sg x1 x2 xs0 ((sg 46 13) + (1 : Int32))
  else
    f_Mod_keeps_59  sg x1 x2 xs0 (1 : Int32)
def f_Mod_keeps_38  (sg : Hp) (x1 : Int32) (x2 : Int32) : Option (Hp) :=
  f_Mod_keeps_43  sg x1 x2 (1 : Int32)
def f_Mod_keeps_22  (sg : Hp) (x1 : Int32) (x2 : Int32) : Option (Hp) :=
  if (sg 46 12) = (-1 : Int32) then
    f_Mod_keeps_38  sg x1 x2
  else
    if (sg 46 12) ≤ x1 then
      f_Mod_keeps_43  sg x1 x2 (0 : Int32)
    else
      f_Mod_keeps_38  sg x1 x2
def f_Mod_keeps (sg : Hp) (x1 : Int32) (x2 : Int32) : Option (Hp) :=
  if x1 = (-1 : Int32) then
    some sg
  else
    if (sg 46 12) = (-1 : Int32) then
      f_Mod_keeps_22  sg x1 x2
    else
      if x1 ≤ (sg 46 12) then
        f_Mod_keeps_22  sg x1 x2
      else
        some sg
/-! BoxSpiderModel.isNew, method 154 -/
def f_Mod_isNew_32 (k4 : Hp → Int32 → Int32 → Int32 → Option (Int32 × Hp)) (sg : Hp) (x1 : Int32) (x3 : Int32) (xs0 : Int32) : Option (Int32 × Hp) :=
  k4 sg x1 xs0 (x3 + (1 : Int32))
def f_Mod_isNew_31 (k4 : Hp → Int32 → Int32 → Int32 → Option (Int32 × Hp)) (sg : Hp) (x1 : Int32) (x3 : Int32) : Option (Int32 × Hp) :=
  f_Mod_isNew_32 k4 sg x1 x3 (0 : Int32)
def f_Mod_isNew_4  : Nat → Hp → Int32 → Int32 → Int32 → Option (Int32 × Hp)
  | 0, _, _, _, _ => none
  | n + 1, sg, x1, x2, x3 =>
    if x1 ≤ x3 then
      if x2 = 0 ∨ x2 = 1 then some (x2, sg) else none
    else
      if x2 = (0 : Int32) then
        f_Mod_isNew_31 (f_Mod_isNew_4 n) sg x1 x3
      else
        if inb x3 5 = true then
          (f_Mod_faceAt sg x1).bind fun y2 =>
            if (sg 58 (x3).toNatClampNeg) = y2.1 then
              f_Mod_isNew_31 (f_Mod_isNew_4 n) y2.2 x1 x3
            else
              f_Mod_isNew_32 (f_Mod_isNew_4 n) y2.2 x1 x3 (1 : Int32)
        else none
def f_Mod_isNew (sg : Hp) (x1 : Int32) : Option (Int32 × Hp) :=
  f_Mod_isNew_4  LF sg x1 (1 : Int32) (0 : Int32)
/-! BoxSpiderModel.findFrom, method 145 -/
def f_Mod_findFrom_77 (k44 : Hp → Int32 → Int32 → Int32 → Option (Hp)) (sg : Hp) (x2 : Int32) (x3 : Int32) (x4 : Int32) : Option (Hp) :=
  k44 sg x2 x3 (x4 + (-1 : Int32))
def f_Mod_findFrom_44  : Nat → Hp → Int32 → Int32 → Int32 → Option (Hp)
  | 0, _, _, _, _ => none
  | n + 1, sg, x2, x3, x4 =>
    if x4 < (0 : Int32) then
      some sg
    else
      if inb x4 6 = true then
        if inb x4 6 = true then
          (some (w2 sg 59 (x4).toNatClampNeg ((sg 59 (x4).toNatClampNeg) + (1 : Int32)))).bind fun s7 =>
            if inb x4 6 = true then
              if (s7 59 (x4).toNatClampNeg) = (4 : Int32) then
                f_Mod_findFrom_77 (f_Mod_findFrom_44 n) s7 x2 x3 x4
              else
                if x4 = (4 : Int32) then
                  f_Mod_findFrom_77 (f_Mod_findFrom_44 n) s7 x2 x3 x4
                else
                  if inb x4 6 = true then
                    (f_Mod_turns s7 x4 (s7 59 (x4).toNatClampNeg)).bind fun y10 =>
                      (f_Mod_isNew y10 (x4 + (1 : Int32))).bind fun y11 =>
                        if y11.1 = (0 : Int32) then
                          f_Mod_findFrom_44 n y11.2 x2 x3 x4
                        else
                          (f_Mod_faceAt y11.2 (x4 + (1 : Int32))).bind fun y12 =>
                            if inb (x4 + (1 : Int32)) 5 = true then
                              (some (w2 y12.2 58 ((x4 + (1 : Int32))).toNatClampNeg y12.1)).bind fun s14 =>
                                if inb (x4 + (1 : Int32)) 6 = true then
                                  (some (w2 s14 59 ((x4 + (1 : Int32))).toNatClampNeg (-1 : Int32))).bind fun s16 =>
                                    if inb (x4 + (1 : Int32)) 5 = true then
                                      (f_Mod_isOn s16 (s16 58 ((x4 + (1 : Int32))).toNatClampNeg) x3).bind fun y18 =>
                                        if y18.1 = (0 : Int32) then
                                          f_Mod_findFrom_44 n y18.2 x2 x3 (x4 + (1 : Int32))
                                        else
                                          (f_Mod_lineOf y18.2 x2 (0 : Int32) x3 (x4 + (1 : Int32))).bind fun y19 =>
                                            (f_Mod_keeps y19.2 y19.1 ((x4 + (1 : Int32)) + (1 : Int32))).bind fun y20 =>
                                              f_Mod_findFrom_44 n y20 x2 x3 (x4 + (1 : Int32))
                                    else none
                                else none
                            else none
                  else none
            else none
        else none
      else none
def f_Mod_findFrom (sg : Hp) (x1 : Int32) (x2 : Int32) (x3 : Int32) : Option (Hp) :=
  (f_Mod_standsOn sg x1).bind fun y1 =>
    (some (w2 y1 58 0 x1)).bind fun s2 =>
      (some (w2 s2 59 0 (-1 : Int32))).bind fun s3 =>
        (f_Mod_isOn s3 x1 x3).bind fun y4 =>
          if y4.1 = (0 : Int32) then
            f_Mod_findFrom_44  LF y4.2 x2 x3 (0 : Int32)
          else
            (f_Mod_lineOf y4.2 x2 (0 : Int32) x3 (0 : Int32)).bind fun y21 =>
              (f_Mod_keeps y21.2 y21.1 (1 : Int32)).bind fun y22 =>
                f_Mod_findFrom_44  LF y22 x2 x3 (0 : Int32)
/-! BoxSpiderModel.shortestOf, method 144 -/
def f_Mod_shortestOf_54 (k32 : Hp → Int32 → Int32 → Int32 → Option (Int32 × Hp)) (sg : Hp) (x1 : Int32) (x2 : Int32) (x3 : Int32) : Option (Int32 × Hp) :=
  k32 sg x1 x2 (x3 + (1 : Int32))
def f_Mod_shortestOf_32  : Nat → Hp → Int32 → Int32 → Int32 → Option (Int32 × Hp)
  | 0, _, _, _, _ => none
  | n + 1, sg, x1, x2, x3 =>
    if (6 : Int32) ≤ x3 then
      some ((sg 46 12), sg)
    else
      (f_Mod_isOn sg x3 x1).bind fun y3 =>
        if y3.1 = (0 : Int32) then
          f_Mod_shortestOf_54 (f_Mod_shortestOf_32 n) y3.2 x1 x2 x3
        else
          (f_Mod_findFrom y3.2 x3 x1 x2).bind fun y4 =>
            f_Mod_shortestOf_54 (f_Mod_shortestOf_32 n) y4 x1 x2 x3
def f_Mod_shortestOf_12  : Nat → Hp → Int32 → Int32 → Int32 → Option (Int32 × Hp)
  | 0, _, _, _, _ => none
  | n + 1, sg, x1, x2, x3 =>
    if (5 : Int32) ≤ x3 then
      f_Mod_shortestOf_32  LF sg x1 x2 (0 : Int32)
    else
      if inb x3 5 = true then
        (some (w2 sg 57 (x3).toNatClampNeg (-1 : Int32))).bind fun s6 =>
          f_Mod_shortestOf_12 n s6 x1 x2 (x3 + (1 : Int32))
      else none
def f_Mod_shortestOf (sg : Hp) (x1 : Int32) (x2 : Int32) : Option (Int32 × Hp) :=
  (some (w2 sg 46 12 (-1 : Int32))).bind fun s1 =>
    (some (w2 s1 46 13 (0 : Int32))).bind fun s2 =>
      f_Mod_shortestOf_12  LF s2 x1 x2 (0 : Int32)
/-! BoxSpiderModel.shortest, method 143 -/
def f_Mod_shortest (sg : Hp) (x1 : Int32) (x2 : Int32) : Option (Int32 × Hp) :=
  (f_Mod_isPlace sg x1).bind fun y1 =>
    if y1.1 = (0 : Int32) then
      some ((-2 : Int32), y1.2)
    else
      (f_Mod_isPlace y1.2 x2).bind fun y2 =>
        if y2.1 = (0 : Int32) then
          some ((-2 : Int32), y2.2)
        else
          (f_Mod_shortestOf y2.2 x1 x2).bind fun y3 =>
            some (y3.1, y3.2)
/-! BoxSpider.ways, method 58 -/
def f_Box_ways (sg : Hp) (x1 : Int32) (x2 : Int32) : Option (Int32 × Hp) :=
  (f_Box_isPlace sg x1).bind fun y1 =>
    if y1.1 = (0 : Int32) then
      some ((-2 : Int32), y1.2)
    else
      (f_Box_isPlace y1.2 x2).bind fun y2 =>
        if y2.1 = (0 : Int32) then
          some ((-2 : Int32), y2.2)
        else
          (f_Table_look y2.2 x1 x2).bind fun y3 =>
            if inb y3.1 64 = true then
              some ((y3.2 26 (y3.1).toNatClampNeg), y3.2)
            else none
/-! BoxSpiderModel.waysOf, method 156 -/
def f_Mod_waysOf (sg : Hp) (x1 : Int32) (x2 : Int32) : Option (Int32 × Hp) :=
  (f_Mod_shortestOf sg x1 x2).bind fun y1 =>
    some ((y1.2 46 13), y1.2)
/-! BoxSpiderModel.ways, method 155 -/
def f_Mod_ways (sg : Hp) (x1 : Int32) (x2 : Int32) : Option (Int32 × Hp) :=
  (f_Mod_isPlace sg x1).bind fun y1 =>
    if y1.1 = (0 : Int32) then
      some ((-2 : Int32), y1.2)
    else
      (f_Mod_isPlace y1.2 x2).bind fun y2 =>
        if y2.1 = (0 : Int32) then
          some ((-2 : Int32), y2.2)
        else
          (f_Mod_waysOf y2.2 x1 x2).bind fun y3 =>
            some (y3.1, y3.2)
/-! BoxSpider$Search.wallInRow, method 60 -/
def f_Search_wallInRow (sg : Hp) (x0 : Int32) (x1 : Int32) : Option (Int32 × Hp) :=
  some ((((x0 >>> (((3 : Int32) * x1) &&& 31)) &&& (7 : Int32)) - (1 : Int32)), sg)
/-! BoxSpider.face, method 59 -/
def f_Box_face (sg : Hp) (x1 : Int32) (x2 : Int32) (x3 : Int32) : Option (Int32 × Hp) :=
  (f_Box_isPlace sg x1).bind fun y1 =>
    if y1.1 = (0 : Int32) then
      some ((-2 : Int32), y1.2)
    else
      (f_Box_isPlace y1.2 x2).bind fun y2 =>
        if y2.1 = (0 : Int32) then
          some ((-2 : Int32), y2.2)
        else
          if x3 < (0 : Int32) then
            some ((-2 : Int32), y2.2)
          else
            if x3 < (5 : Int32) then
              (f_Table_look y2.2 x1 x2).bind fun y3 =>
                if inb y3.1 64 = true then
                  (f_Search_wallInRow y3.2 (y3.2 27 (y3.1).toNatClampNeg) x3).bind fun y5 =>
                    some (y5.1, y5.2)
                else none
            else
              some ((-2 : Int32), y2.2)
/-! BoxSpiderModel.faceOf, method 158 -/
def f_Mod_faceOf (sg : Hp) (x1 : Int32) (x2 : Int32) (x3 : Int32) : Option (Int32 × Hp) :=
  (f_Mod_shortestOf sg x1 x2).bind fun y1 =>
    if inb x3 5 = true then
      some ((y1.2 57 (x3).toNatClampNeg), y1.2)
    else none
/-! BoxSpiderModel.face, method 157 -/
def f_Mod_face (sg : Hp) (x1 : Int32) (x2 : Int32) (x3 : Int32) : Option (Int32 × Hp) :=
  (f_Mod_isPlace sg x1).bind fun y1 =>
    if y1.1 = (0 : Int32) then
      some ((-2 : Int32), y1.2)
    else
      (f_Mod_isPlace y1.2 x2).bind fun y2 =>
        if y2.1 = (0 : Int32) then
          some ((-2 : Int32), y2.2)
        else
          (f_Mod_in y2.2 (x3).toInt64 (0 : Int64) (4 : Int64)).bind fun y3 =>
            if y3.1 = (0 : Int32) then
              some ((-2 : Int32), y3.2)
            else
              (f_Mod_faceOf y3.2 x1 x2 x3).bind fun y4 =>
                some (y4.1, y4.2)
/-! BoxSpider.farthest, method 61 -/
def f_Box_farthest_56 (k17 : Hp → Int32 → Int32 → Int32 → Int32 → Option (Int32 × Hp)) (sg : Hp) (x1 : Int32) (x2 : Int32) (x3 : Int32) (x4 : Int32) : Option (Int32 × Hp) :=
  k17 sg x1 x2 x3 (x4 + (1 : Int32))
def f_Box_farthest_17  : Nat → Hp → Int32 → Int32 → Int32 → Int32 → Option (Int32 × Hp)
  | 0, _, _, _, _, _ => none
  | n + 1, sg, x1, x2, x3, x4 =>
    if (8 : Int32) ≤ x4 then
      some (x2, sg)
    else
      (f_Table_look sg x1 x4).bind fun y2 =>
        if inb y2.1 64 = true then
          if (y2.2 25 (y2.1).toNatClampNeg) ≤ x3 then
            f_Box_farthest_56 (f_Box_farthest_17 n) y2.2 x1 x2 x3 x4
          else
            f_Box_farthest_56 (f_Box_farthest_17 n) y2.2 x1 x4 (y2.2 25 (y2.1).toNatClampNeg) x4
        else none
def f_Box_farthest (sg : Hp) (x1 : Int32) : Option (Int32 × Hp) :=
  (f_Box_isPlace sg x1).bind fun y1 =>
    if y1.1 = (0 : Int32) then
      some ((-2 : Int32), y1.2)
    else
      f_Box_farthest_17  LF y1.2 x1 (-1 : Int32) (-1 : Int32) (0 : Int32)
/-! BoxSpiderModel.farthestOf, method 160 -/
def f_Mod_farthestOf_35 (k7 : Hp → Int32 → Int32 → Int32 → Int32 → Option (Int32 × Hp)) (sg : Hp) (x1 : Int32) (x3 : Int32) (x4 : Int32) (x5 : Int32) (xs0 : Int32) : Option (Int32 × Hp) :=
  (f_Mod_greater sg x5 x3).bind fun y2 =>
    k7 y2.2 x1 xs0 y2.1 (x4 + (1 : Int32))
def f_Mod_farthestOf_7  : Nat → Hp → Int32 → Int32 → Int32 → Int32 → Option (Int32 × Hp)
  | 0, _, _, _, _, _ => none
  | n + 1, sg, x1, x2, x3, x4 =>
    if (8 : Int32) ≤ x4 then
      some (x2, sg)
    else
      (f_Mod_shortestOf sg x1 x4).bind fun y1 =>
        if y1.1 ≤ x3 then
          f_Mod_farthestOf_35 (f_Mod_farthestOf_7 n) y1.2 x1 x3 x4 y1.1 x2
        else
          f_Mod_farthestOf_35 (f_Mod_farthestOf_7 n) y1.2 x1 x3 x4 y1.1 x4
def f_Mod_farthestOf (sg : Hp) (x1 : Int32) : Option (Int32 × Hp) :=
  f_Mod_farthestOf_7  LF sg x1 x1 (-1 : Int32) (0 : Int32)
/-! BoxSpiderModel.farthest, method 159 -/
def f_Mod_farthest (sg : Hp) (x1 : Int32) : Option (Int32 × Hp) :=
  (f_Mod_isPlace sg x1).bind fun y1 =>
    if y1.1 = (0 : Int32) then
      some ((-2 : Int32), y1.2)
    else
      (f_Mod_farthestOf y1.2 x1).bind fun y2 =>
        some (y2.1, y2.2)
/-! BoxSpider.reachOf, method 63 -/
def f_Box_reachOf_4  : Nat → Hp → Int32 → Int32 → Int32 → Option (Int32 × Hp)
  | 0, _, _, _, _ => none
  | n + 1, sg, x1, x2, x3 =>
    if (8 : Int32) ≤ x3 then
      some (x2, sg)
    else
      (f_Table_look sg x1 x3).bind fun y1 =>
        if inb y1.1 64 = true then
          if (y1.2 25 (y1.1).toNatClampNeg) = (-1 : Int32) then
            some ((-1 : Int32), y1.2)
          else
            f_Box_reachOf_4 n y1.2 x1 (if x2 < (y1.2 25 (y1.1).toNatClampNeg) then (y1.2 25 (y1.1).toNatClampNeg) else x2) (x3 + (1 : Int32))
        else none
def f_Box_reachOf (sg : Hp) (x1 : Int32) : Option (Int32 × Hp) :=
  f_Box_reachOf_4  LF sg x1 (0 : Int32) (0 : Int32)
/-! BoxSpider.sit, method 62 -/
def f_Box_sit_41 (k6 : Hp → Int32 → Int32 → Int32 → Option (Int32 × Hp)) (sg : Hp) (x1 : Int32) (x2 : Int32) (x3 : Int32) : Option (Int32 × Hp) :=
  k6 sg x1 x2 (x3 + (1 : Int32))
def f_Box_sit_36 (k6 : Hp → Int32 → Int32 → Int32 → Option (Int32 × Hp)) (sg : Hp) (x3 : Int32) (x4 : Int32) : Option (Int32 × Hp) :=
  f_Box_sit_41 k6 sg x3 x4 x3
def f_Box_sit_6  : Nat → Hp → Int32 → Int32 → Int32 → Option (Int32 × Hp)
  | 0, _, _, _, _ => none
  | n + 1, sg, x1, x2, x3 =>
    if (8 : Int32) ≤ x3 then
      some (x1, sg)
    else
      (f_Box_reachOf sg x3).bind fun y1 =>
        if y1.1 = (-1 : Int32) then
          f_Box_sit_41 (f_Box_sit_6 n) y1.2 x1 x2 x3
        else
          if x1 = (-1 : Int32) then
            f_Box_sit_36 (f_Box_sit_6 n) y1.2 x3 y1.1
          else
            if x2 ≤ y1.1 then
              f_Box_sit_41 (f_Box_sit_6 n) y1.2 x1 x2 x3
            else
              f_Box_sit_36 (f_Box_sit_6 n) y1.2 x3 y1.1
def f_Box_sit (sg : Hp)  : Option (Int32 × Hp) :=
  f_Box_sit_6  LF sg (-1 : Int32) (-1 : Int32) (0 : Int32)
/-! BoxSpiderModel.sitNow, method 162 -/
def f_Mod_sitNow_91 (k6 : Hp → Int32 → Int32 → Int32 → Option (Int32 × Hp)) (sg : Hp) (x1 : Int32) (x2 : Int32) (x3 : Int32) : Option (Int32 × Hp) :=
  k6 sg x1 x2 (x3 + (1 : Int32))
def f_Mod_sitNow_86 (k6 : Hp → Int32 → Int32 → Int32 → Option (Int32 × Hp)) (sg : Hp) (x3 : Int32) (x4 : Int32) : Option (Int32 × Hp) :=
  f_Mod_sitNow_91 k6 sg x3 x4 x3
def f_Mod_sitNow_53 (k6 : Hp → Int32 → Int32 → Int32 → Option (Int32 × Hp)) (k21 : Hp → Int32 → Int32 → Int32 → Int32 → Int32 → Int32 → Option (Int32 × Hp)) (sg : Hp) (x1 : Int32) (x2 : Int32) (x3 : Int32) (x4 : Int32) (x6 : Int32) (x7 : Int32) (xs0 : Int32) : Option (Int32 × Hp) :=
  (f_Mod_greater sg x7 x4).bind fun y2 =>
    k21 y2.2 x1 x2 x3 y2.1 xs0 (x6 + (1 : Int32))
def f_Mod_sitNow_52 (k6 : Hp → Int32 → Int32 → Int32 → Option (Int32 × Hp)) (k21 : Hp → Int32 → Int32 → Int32 → Int32 → Int32 → Int32 → Option (Int32 × Hp)) (sg : Hp) (x1 : Int32) (x2 : Int32) (x3 : Int32) (x4 : Int32) (x6 : Int32) (x7 : Int32) : Option (Int32 × Hp) :=
  f_Mod_sitNow_53 k6 k21 sg x1 x2 x3 x4 x6 x7 (0 : Int32)
def f_Mod_sitNow_21 (k6 : Hp → Int32 → Int32 → Int32 → Option (Int32 × Hp)) : Nat → Hp → Int32 → Int32 → Int32 → Int32 → Int32 → Int32 → Option (Int32 × Hp)
  | 0, _, _, _, _, _, _, _ => none
  | n + 1, sg, x1, x2, x3, x4, x5, x6 =>
    if (8 : Int32) ≤ x6 then
      if x5 = (0 : Int32) then
        f_Mod_sitNow_91 k6 sg x1 x2 x3
      else
        if x1 = (-1 : Int32) then
          f_Mod_sitNow_86 k6 sg x3 x4
        else
          if x2 ≤ x4 then
            f_Mod_sitNow_91 k6 sg x1 x2 x3
          else
            f_Mod_sitNow_86 k6 sg x3 x4
    else
      (f_Mod_shortestOf sg x3 x6).bind fun y1 =>
        if x5 = (0 : Int32) then
          f_Mod_sitNow_52 k6 (f_Mod_sitNow_21 k6 n) y1.2 x1 x2 x3 x4 x6 y1.1
        else
          if y1.1 = (-1 : Int32) then
            f_Mod_sitNow_52 k6 (f_Mod_sitNow_21 k6 n) y1.2 x1 x2 x3 x4 x6 y1.1
          else
            f_Mod_sitNow_53 k6 (f_Mod_sitNow_21 k6 n) y1.2 x1 x2 x3 x4 x6 y1.1 (1 : Int32)
def f_Mod_sitNow_6  : Nat → Hp → Int32 → Int32 → Int32 → Option (Int32 × Hp)
  | 0, _, _, _, _ => none
  | n + 1, sg, x1, x2, x3 =>
    if (8 : Int32) ≤ x3 then
      some (x1, sg)
    else
      f_Mod_sitNow_21 (f_Mod_sitNow_6 n) LF sg x1 x2 x3 (0 : Int32) (1 : Int32) (0 : Int32)
def f_Mod_sitNow (sg : Hp)  : Option (Int32 × Hp) :=
  f_Mod_sitNow_6  LF sg (-1 : Int32) (0 : Int32) (0 : Int32)
/-! BoxSpiderModel.sit, method 161 -/
def f_Mod_sit (sg : Hp)  : Option (Int32 × Hp) :=
  (f_Mod_sitNow sg ).bind fun y1 =>
    some (y1.1, y1.2)
/-! BoxSpider.nearer, method 64 -/
def f_Box_nearer_100 (k27 : Hp → Int32 → Int32 → Int32 → Int32 → Option (Int32 × Hp)) (sg : Hp) (x1 : Int32) (x2 : Int32) (x3 : Int32) (x4 : Int32) : Option (Int32 × Hp) :=
  k27 sg x1 x2 x3 (x4 + (1 : Int32))
def f_Box_nearer_93 (k27 : Hp → Int32 → Int32 → Int32 → Int32 → Option (Int32 × Hp)) (sg : Hp) (x1 : Int32) (x2 : Int32) (x3 : Int32) (x4 : Int32) : Option (Int32 × Hp) :=
  f_Box_nearer_100 k27 sg x1 x2 (x3 ||| ((1 : Int32) <<< (x4 &&& 31))) x4
def f_Box_nearer_27  : Nat → Hp → Int32 → Int32 → Int32 → Int32 → Option (Int32 × Hp)
  | 0, _, _, _, _, _ => none
  | n + 1, sg, x1, x2, x3, x4 =>
    if (8 : Int32) ≤ x4 then
      some (x3, sg)
    else
      (f_Table_look sg x1 x4).bind fun y3 =>
        if inb y3.1 64 = true then
          (f_Table_look y3.2 x2 x4).bind fun y5 =>
            if inb y5.1 64 = true then
              if (y3.2 25 (y3.1).toNatClampNeg) = (-1 : Int32) then
                f_Box_nearer_100 (f_Box_nearer_27 n) y5.2 x1 x2 x3 x4
              else
                if (y5.2 25 (y5.1).toNatClampNeg) = (-1 : Int32) then
                  f_Box_nearer_93 (f_Box_nearer_27 n) y5.2 x1 x2 x3 x4
                else
                  if (y5.2 25 (y5.1).toNatClampNeg) ≤ (y3.2 25 (y3.1).toNatClampNeg) then
                    f_Box_nearer_100 (f_Box_nearer_27 n) y5.2 x1 x2 x3 x4
                  else
                    f_Box_nearer_93 (f_Box_nearer_27 n) y5.2 x1 x2 x3 x4
            else none
        else none
def f_Box_nearer (sg : Hp) (x1 : Int32) (x2 : Int32) : Option (Int32 × Hp) :=
  (f_Box_isPlace sg x1).bind fun y1 =>
    if y1.1 = (0 : Int32) then
      some ((-2 : Int32), y1.2)
    else
      (f_Box_isPlace y1.2 x2).bind fun y2 =>
        if y2.1 = (0 : Int32) then
          some ((-2 : Int32), y2.2)
        else
          if x1 = x2 then
            some ((-2 : Int32), y2.2)
          else
            f_Box_nearer_27  LF y2.2 x1 x2 (0 : Int32) (0 : Int32)
/-! BoxSpiderModel.nearerOf, method 164 -/
def f_Mod_nearerOf_58 (k5 : Hp → Int32 → Int32 → Int32 → Int32 → Option (Int32 × Hp)) (sg : Hp) (x1 : Int32) (x2 : Int32) (x4 : Int32) (xs0 : Int32) (xs1 : Int32) : Option (Int32 × Hp) :=
  k5 sg x1 x2 (xs0 ||| xs1) (x4 + (1 : Int32))
def f_Mod_nearerOf_57 (k5 : Hp → Int32 → Int32 → Int32 → Int32 → Option (Int32 × Hp)) (sg : Hp) (x1 : Int32) (x2 : Int32) (x4 : Int32) (xs0 : Int32) : Option (Int32 × Hp) :=
  f_Mod_nearerOf_58 k5 sg x1 x2 x4 xs0 (0 : Int32)
def f_Mod_nearerOf_50 (k5 : Hp → Int32 → Int32 → Int32 → Int32 → Option (Int32 × Hp)) (sg : Hp) (x1 : Int32) (x2 : Int32) (x4 : Int32) (xs0 : Int32) : Option (Int32 × Hp) :=
  f_Mod_nearerOf_58 k5 sg x1 x2 x4 xs0 ((1 : Int32) <<< (x4 &&& 31))
def f_Mod_nearerOf_5  : Nat → Hp → Int32 → Int32 → Int32 → Int32 → Option (Int32 × Hp)
  | 0, _, _, _, _, _ => none
  | n + 1, sg, x1, x2, x3, x4 =>
    if (8 : Int32) ≤ x4 then
      some (x3, sg)
    else
      (f_Mod_shortestOf sg x1 x4).bind fun y1 =>
        (f_Mod_shortestOf y1.2 x2 x4).bind fun y2 =>
          if y1.1 = (-1 : Int32) then
            f_Mod_nearerOf_57 (f_Mod_nearerOf_5 n) y2.2 x1 x2 x4 x3
          else
            if y2.1 = (-1 : Int32) then
              f_Mod_nearerOf_50 (f_Mod_nearerOf_5 n) y2.2 x1 x2 x4 x3
            else
              if y2.1 ≤ y1.1 then
                f_Mod_nearerOf_57 (f_Mod_nearerOf_5 n) y2.2 x1 x2 x4 x3
              else
                f_Mod_nearerOf_50 (f_Mod_nearerOf_5 n) y2.2 x1 x2 x4 x3
def f_Mod_nearerOf (sg : Hp) (x1 : Int32) (x2 : Int32) : Option (Int32 × Hp) :=
  f_Mod_nearerOf_5  LF sg x1 x2 (0 : Int32) (0 : Int32)
/-! BoxSpiderModel.nearer, method 163 -/
def f_Mod_nearer (sg : Hp) (x1 : Int32) (x2 : Int32) : Option (Int32 × Hp) :=
  (f_Mod_isPlace sg x1).bind fun y1 =>
    if y1.1 = (0 : Int32) then
      some ((-2 : Int32), y1.2)
    else
      (f_Mod_isPlace y1.2 x2).bind fun y2 =>
        if y2.1 = (0 : Int32) then
          some ((-2 : Int32), y2.2)
        else
          if x1 = x2 then
            some ((-2 : Int32), y2.2)
          else
            (f_Mod_nearerOf y2.2 x1 x2).bind fun y3 =>
              some (y3.1, y3.2)
/-! BoxSpider$Wiring.clear, method 66 -/
def f_Wiring_clear_12  : Nat → Hp → Int32 → Option (Hp)
  | 0, _, _ => none
  | n + 1, sg, x1 =>
    if (8 : Int32) ≤ x1 then
      some sg
    else
      if inb x1 8 = true then
        (some (w2 sg 30 (x1).toNatClampNeg x1)).bind fun s4 =>
          f_Wiring_clear_12 n s4 (x1 + (1 : Int32))
      else none
def f_Wiring_clear (sg : Hp)  : Option (Hp) :=
  (some (w2 sg 29 2 (0 : Int32))).bind fun s1 =>
    (some (w2 s1 29 3 (0 : Int32))).bind fun s2 =>
      f_Wiring_clear_12  LF s2 (0 : Int32)
/-! BoxSpider$Wiring.isOpen, method 68 -/
def f_Wiring_isOpen_35  (sg : Hp) (x3 : Int32) (x4 : Int32) (xs0 : Int32) : Option (Int32 × Hp) :=
  if x4 ≤ x3 then
    some ((0 : Int32), sg)
  else
    if xs0 = (0 : Int32) then
      some ((0 : Int32), sg)
    else
      if inb x3 8 = true then
        if inb x4 8 = true then
          if (sg 30 (x3).toNatClampNeg) = (sg 30 (x4).toNatClampNeg) then
            some ((0 : Int32), sg)
          else
            some ((1 : Int32), sg)
        else none
      else none
def f_Wiring_isOpen_34  (sg : Hp) (x3 : Int32) (x4 : Int32) : Option (Int32 × Hp) :=
  f_Wiring_isOpen_35  sg x3 x4 (0 : Int32)
def f_Wiring_isOpen (sg : Hp) (x1 : Int32) (x2 : Int32) : Option (Int32 × Hp) :=
  if ((x2 >>> ((x1 / (8 : Int32)) &&& 31)) &&& (1 : Int32)) = (1 : Int32) then
    if ((x2 >>> ((x1 - x1 / (8 : Int32) * (8 : Int32)) &&& 31)) &&& (1 : Int32)) = (1 : Int32) then
      f_Wiring_isOpen_35  sg (x1 / (8 : Int32)) (x1 - x1 / (8 : Int32) * (8 : Int32)) (1 : Int32)
    else
      f_Wiring_isOpen_34  sg (x1 / (8 : Int32)) (x1 - x1 / (8 : Int32) * (8 : Int32))
  else
    f_Wiring_isOpen_34  sg (x1 / (8 : Int32)) (x1 - x1 / (8 : Int32) * (8 : Int32))
/-! BoxSpider$Wiring.unite, method 69 -/
def f_Wiring_unite_25 (k2 : Hp → Int32 → Int32 → Int32 → Option (Hp)) (sg : Hp) (x1 : Int32) (x2 : Int32) (x3 : Int32) : Option (Hp) :=
  k2 sg x1 x2 (x3 + (1 : Int32))
def f_Wiring_unite_2  : Nat → Hp → Int32 → Int32 → Int32 → Option (Hp)
  | 0, _, _, _, _ => none
  | n + 1, sg, x1, x2, x3 =>
    if (8 : Int32) ≤ x3 then
      some sg
    else
      if inb x3 8 = true then
        if (sg 30 (x3).toNatClampNeg) = x2 then
          if inb x3 8 = true then
            (some (w2 sg 30 (x3).toNatClampNeg x1)).bind fun s3 =>
              f_Wiring_unite_25 (f_Wiring_unite_2 n) s3 x1 x2 x3
          else none
        else
          f_Wiring_unite_25 (f_Wiring_unite_2 n) sg x1 x2 x3
      else none
def f_Wiring_unite (sg : Hp) (x1 : Int32) (x2 : Int32) : Option (Hp) :=
  f_Wiring_unite_2  LF sg x1 x2 (0 : Int32)
/-! BoxSpider$Wiring.joinNext, method 67 -/
def f_Wiring_joinNext_71 (k8 : Hp → Int32 → Int32 → Int32 → Int32 → Option (Int32 × Hp)) (sg : Hp) (x2 : Int32) (x3 : Int32) (x4 : Int32) (x5 : Int32) : Option (Int32 × Hp) :=
  k8 sg x2 x3 x4 (x5 + (1 : Int32))
def f_Wiring_joinNext_64 (k8 : Hp → Int32 → Int32 → Int32 → Int32 → Option (Int32 × Hp)) (sg : Hp) (x2 : Int32) (x5 : Int32) (x6 : Int32) : Option (Int32 × Hp) :=
  f_Wiring_joinNext_71 k8 sg x2 x5 x6 x5
def f_Wiring_joinNext_8  : Nat → Hp → Int32 → Int32 → Int32 → Int32 → Option (Int32 × Hp)
  | 0, _, _, _, _, _ => none
  | n + 1, sg, x2, x3, x4, x5 =>
    if (64 : Int32) ≤ x5 then
      if x3 = (-1 : Int32) then
        some ((0 : Int32), sg)
      else
        if (sg 29 2) < (8 : Int32) then
          if inb (sg 29 2) 8 = true then
            (some (w2 sg 31 ((sg 29 2)).toNatClampNeg x3)).bind fun s2 =>
              (some (w2 s2 29 2 ((s2 29 2) + (1 : Int32)))).bind fun s3 =>
                (some (w2 s3 29 3 x4)).bind fun s4 =>
                  if inb (x3 / (8 : Int32)) 8 = true then
                    if inb (x3 - x3 / (8 : Int32) * (8 : Int32)) 8 = true then
                      (f_Wiring_unite s4 (s4 30 ((x3 / (8 : Int32))).toNatClampNeg) (s4 30 ((x3 - x3 / (8 : Int32) * (8 : Int32))).toNatClampNeg)).bind fun y7 =>
                        some ((1 : Int32), y7)
                    else none
                  else none
          else none
        else
          some ((0 : Int32), sg)
    else
      (f_Wiring_isOpen sg x5 x2).bind fun y8 =>
        if y8.1 = (0 : Int32) then
          f_Wiring_joinNext_71 (f_Wiring_joinNext_8 n) y8.2 x2 x3 x4 x5
        else
          (f_Table_look y8.2 (x5 / (8 : Int32)) (x5 - x5 / (8 : Int32) * (8 : Int32))).bind fun y9 =>
            if inb y9.1 64 = true then
              if (y9.2 25 (y9.1).toNatClampNeg) = (-1 : Int32) then
                f_Wiring_joinNext_71 (f_Wiring_joinNext_8 n) y9.2 x2 x3 x4 x5
              else
                if x3 = (-1 : Int32) then
                  f_Wiring_joinNext_64 (f_Wiring_joinNext_8 n) y9.2 x2 x5 (y9.2 25 (y9.1).toNatClampNeg)
                else
                  if x4 ≤ (y9.2 25 (y9.1).toNatClampNeg) then
                    f_Wiring_joinNext_71 (f_Wiring_joinNext_8 n) y9.2 x2 x3 x4 x5
                  else
                    f_Wiring_joinNext_64 (f_Wiring_joinNext_8 n) y9.2 x2 x5 (y9.2 25 (y9.1).toNatClampNeg)
            else none
def f_Wiring_joinNext (sg : Hp) (x2 : Int32) : Option (Int32 × Hp) :=
  f_Wiring_joinNext_8  LF sg x2 (-1 : Int32) (-1 : Int32) (0 : Int32)
/-! BoxSpider.wires, method 65 -/
def f_Box_wires_62  (sg : Hp) (x2 : Int32) : Option (Int32 × Hp) :=
  if x2 = (-1 : Int32) then
    some ((sg 29 2), sg)
  else
    if x2 = (-2 : Int32) then
      some ((sg 29 3), sg)
    else
      if (sg 29 2) ≤ x2 then
        some ((-1 : Int32), sg)
      else
        if inb x2 8 = true then
          some ((sg 31 (x2).toNatClampNeg), sg)
        else none
def f_Box_wires_32  : Nat → Hp → Int32 → Int32 → Int32 → Int32 → Option (Int32 × Hp)
  | 0, _, _, _, _, _ => none
  | n + 1, sg, x1, x2, x3, x4 =>
    if (8 : Int32) ≤ x4 then
      f_Box_wires_62  sg x2
    else
      if x3 = (0 : Int32) then
        f_Box_wires_62  sg x2
      else
        (f_Wiring_joinNext sg x1).bind fun y3 =>
          f_Box_wires_32 n y3.2 x1 x2 y3.1 (x4 + (1 : Int32))
def f_Box_wires (sg : Hp) (x1 : Int32) (x2 : Int32) : Option (Int32 × Hp) :=
  if x1 < (0 : Int32) then
    some ((-2 : Int32), sg)
  else
    if (256 : Int32) ≤ x1 then
      some ((-2 : Int32), sg)
    else
      if (-2 : Int32) ≤ x2 then
        (f_Wiring_clear sg ).bind fun y1 =>
          f_Box_wires_32  LF y1 x1 x2 (1 : Int32) (1 : Int32)
      else
        some ((-2 : Int32), sg)
/-! BoxSpiderModel.joins, method 167 -/
def f_Mod_joins_50 (k10 : Hp → Int32 → Int32 → Int32 → Option (Hp)) (sg : Hp) (x1 : Int32) (x3 : Int32) (x4 : Int32) (xs1 : Int32) (xs2 : Int32) : Option (Hp) :=
  if inb xs1 8 = true then
    (some (w2 sg 61 (xs1).toNatClampNeg xs2)).bind fun s5 =>
      k10 s5 x1 x3 (x4 + (1 : Int32))
  else none
def f_Mod_joins_10  : Nat → Hp → Int32 → Int32 → Int32 → Option (Hp)
  | 0, _, _, _, _ => none
  | n + 1, sg, x1, x3, x4 =>
    if (8 : Int32) ≤ x4 then
      some sg
    else
      if inb x4 8 = true then
        if (sg 61 (x4).toNatClampNeg) = x3 then
          if inb x1 8 = true then
            f_Mod_joins_50 (f_Mod_joins_10 n) sg x1 x3 x4 x4 (sg 61 (x1).toNatClampNeg)
          else none
        else
          if inb x4 8 = true then
            f_Mod_joins_50 (f_Mod_joins_10 n) sg x1 x3 x4 x4 (sg 61 (x4).toNatClampNeg)
          else none
      else none
def f_Mod_joins (sg : Hp) (x1 : Int32) (x2 : Int32) : Option (Hp) :=
  if inb x2 8 = true then
    f_Mod_joins_10  LF sg x1 (sg 61 (x2).toNatClampNeg) (0 : Int32)
  else none
/-! BoxSpiderModel.wiresOf, method 166 -/
def f_Mod_wiresOf_279 (k90 : Hp → Int32 → Int32 → Int32 → Int32 → Int32 → Option (Int32 × Hp)) (sg : Hp) (x2 : Int32) (x3 : Int32) (x4 : Int32) (x5 : Int32) (x6 : Int32) : Option (Int32 × Hp) :=
  k90 sg x2 x3 x4 x5 x6
def f_Mod_wiresOf_274 (k90 : Hp → Int32 → Int32 → Int32 → Int32 → Int32 → Option (Int32 × Hp)) (sg : Hp) (x2 : Int32) (x3 : Int32) (x4 : Int32) (x6 : Int32) (xs0 : Int32) : Option (Int32 × Hp) :=
  f_Mod_wiresOf_279 k90 sg x2 (x3 + (1 : Int32)) x4 xs0 x6
def f_Mod_wiresOf_227 (k90 : Hp → Int32 → Int32 → Int32 → Int32 → Int32 → Option (Int32 × Hp)) (sg : Hp) (x2 : Int32) (x3 : Int32) (x4 : Int32) (x5 : Int32) (x7 : Int32) (xs0 : Int32) : Option (Int32 × Hp) :=
  if xs0 = (0 : Int32) then
    f_Mod_wiresOf_279 k90 sg x2 x3 x4 x5 xs0
  else
    (f_Mod_joins sg (x7 / (8 : Int32)) (x7 - x7 / (8 : Int32) * (8 : Int32))).bind fun y1 =>
      if inb x7 64 = true then
        (f_Mod_greater y1 x4 (y1 60 (x7).toNatClampNeg)).bind fun y3 =>
          if x3 = x2 then
            f_Mod_wiresOf_274 k90 y3.2 x2 x3 y3.1 xs0 x7
          else
            f_Mod_wiresOf_274 k90 y3.2 x2 x3 y3.1 xs0 x5
      else none
def f_Mod_wiresOf_202 (k90 : Hp → Int32 → Int32 → Int32 → Int32 → Int32 → Option (Int32 × Hp)) (k101 : Hp → Int32 → Int32 → Int32 → Int32 → Int32 → Int32 → Option (Int32 × Hp)) (k114 : Hp → Int32 → Int32 → Int32 → Int32 → Int32 → Int32 → Int32 → Option (Int32 × Hp)) (sg : Hp) (x2 : Int32) (x3 : Int32) (x4 : Int32) (x5 : Int32) (x8 : Int32) (x9 : Int32) (xs0 : Int32) : Option (Int32 × Hp) :=
  k114 sg x2 x3 x4 x5 xs0 x8 (x9 + (1 : Int32))
def f_Mod_wiresOf_200 (k90 : Hp → Int32 → Int32 → Int32 → Int32 → Int32 → Option (Int32 × Hp)) (k101 : Hp → Int32 → Int32 → Int32 → Int32 → Int32 → Int32 → Option (Int32 × Hp)) (k114 : Hp → Int32 → Int32 → Int32 → Int32 → Int32 → Int32 → Int32 → Option (Int32 × Hp)) (sg : Hp) (x2 : Int32) (x3 : Int32) (x4 : Int32) (x5 : Int32) (x7 : Int32) (x8 : Int32) (x9 : Int32) : Option (Int32 × Hp) :=
  f_Mod_wiresOf_202 k90 k101 k114 sg x2 x3 x4 x5 x8 x9 x7
def f_Mod_wiresOf_189 (k90 : Hp → Int32 → Int32 → Int32 → Int32 → Int32 → Option (Int32 × Hp)) (k101 : Hp → Int32 → Int32 → Int32 → Int32 → Int32 → Int32 → Option (Int32 × Hp)) (k114 : Hp → Int32 → Int32 → Int32 → Int32 → Int32 → Int32 → Int32 → Option (Int32 × Hp)) (sg : Hp) (x2 : Int32) (x3 : Int32) (x4 : Int32) (x5 : Int32) (x8 : Int32) (x9 : Int32) : Option (Int32 × Hp) :=
  f_Mod_wiresOf_202 k90 k101 k114 sg x2 x3 x4 x5 x8 x9 (((8 : Int32) * x8) + x9)
def f_Mod_wiresOf_164 (k90 : Hp → Int32 → Int32 → Int32 → Int32 → Int32 → Option (Int32 × Hp)) (k101 : Hp → Int32 → Int32 → Int32 → Int32 → Int32 → Int32 → Option (Int32 × Hp)) (k114 : Hp → Int32 → Int32 → Int32 → Int32 → Int32 → Int32 → Int32 → Option (Int32 × Hp)) (sg : Hp) (x2 : Int32) (x3 : Int32) (x4 : Int32) (x5 : Int32) (x7 : Int32) (x8 : Int32) (x9 : Int32) (x10 : Int32) (xs0 : Int32) : Option (Int32 × Hp) :=
  if xs0 = (0 : Int32) then
    f_Mod_wiresOf_200 k90 k101 k114 sg x2 x3 x4 x5 x7 x8 x9
  else
    if x7 = (-1 : Int32) then
      f_Mod_wiresOf_189 k90 k101 k114 sg x2 x3 x4 x5 x8 x9
    else
      if inb x7 64 = true then
        if (sg 60 (x7).toNatClampNeg) ≤ x10 then
          f_Mod_wiresOf_200 k90 k101 k114 sg x2 x3 x4 x5 x7 x8 x9
        else
          f_Mod_wiresOf_189 k90 k101 k114 sg x2 x3 x4 x5 x8 x9
      else none
def f_Mod_wiresOf_163 (k90 : Hp → Int32 → Int32 → Int32 → Int32 → Int32 → Option (Int32 × Hp)) (k101 : Hp → Int32 → Int32 → Int32 → Int32 → Int32 → Int32 → Option (Int32 × Hp)) (k114 : Hp → Int32 → Int32 → Int32 → Int32 → Int32 → Int32 → Int32 → Option (Int32 × Hp)) (sg : Hp) (x2 : Int32) (x3 : Int32) (x4 : Int32) (x5 : Int32) (x7 : Int32) (x8 : Int32) (x9 : Int32) (x10 : Int32) : Option (Int32 × Hp) :=
  f_Mod_wiresOf_164 k90 k101 k114 sg x2 x3 x4 x5 x7 x8 x9 x10 (0 : Int32)
def f_Mod_wiresOf_114 (k90 : Hp → Int32 → Int32 → Int32 → Int32 → Int32 → Option (Int32 × Hp)) (k101 : Hp → Int32 → Int32 → Int32 → Int32 → Int32 → Int32 → Option (Int32 × Hp)) : Nat → Hp → Int32 → Int32 → Int32 → Int32 → Int32 → Int32 → Int32 → Option (Int32 × Hp)
  | 0, _, _, _, _, _, _, _, _ => none
  | n + 1, sg, x2, x3, x4, x5, x7, x8, x9 =>
    if (8 : Int32) ≤ x9 then
      k101 sg x2 x3 x4 x5 x7 (x8 + (1 : Int32))
    else
      if inb (((8 : Int32) * x8) + x9) 64 = true then
        if (sg 60 ((((8 : Int32) * x8) + x9)).toNatClampNeg) = (-1 : Int32) then
          f_Mod_wiresOf_163 k90 k101 (f_Mod_wiresOf_114 k90 k101 n) sg x2 x3 x4 x5 x7 x8 x9 (sg 60 ((((8 : Int32) * x8) + x9)).toNatClampNeg)
        else
          if inb x8 8 = true then
            if inb x9 8 = true then
              if (sg 61 (x8).toNatClampNeg) = (sg 61 (x9).toNatClampNeg) then
                f_Mod_wiresOf_163 k90 k101 (f_Mod_wiresOf_114 k90 k101 n) sg x2 x3 x4 x5 x7 x8 x9 (sg 60 ((((8 : Int32) * x8) + x9)).toNatClampNeg)
              else
                f_Mod_wiresOf_164 k90 k101 (f_Mod_wiresOf_114 k90 k101 n) sg x2 x3 x4 x5 x7 x8 x9 (sg 60 ((((8 : Int32) * x8) + x9)).toNatClampNeg) (1 : Int32)
            else none
          else none
      else none
def f_Mod_wiresOf_101 (k90 : Hp → Int32 → Int32 → Int32 → Int32 → Int32 → Option (Int32 × Hp)) : Nat → Hp → Int32 → Int32 → Int32 → Int32 → Int32 → Int32 → Option (Int32 × Hp)
  | 0, _, _, _, _, _, _, _ => none
  | n + 1, sg, x2, x3, x4, x5, x7, x8 =>
    if (8 : Int32) ≤ x8 then
      if x7 = (-1 : Int32) then
        f_Mod_wiresOf_227 k90 sg x2 x3 x4 x5 x7 (0 : Int32)
      else
        f_Mod_wiresOf_227 k90 sg x2 x3 x4 x5 x7 (1 : Int32)
    else
      f_Mod_wiresOf_114 k90 (f_Mod_wiresOf_101 k90 n) LF sg x2 x3 x4 x5 x7 x8 (x8 + (1 : Int32))
def f_Mod_wiresOf_90  : Nat → Hp → Int32 → Int32 → Int32 → Int32 → Int32 → Option (Int32 × Hp)
  | 0, _, _, _, _, _, _ => none
  | n + 1, sg, x2, x3, x4, x5, x6 =>
    if x6 = (0 : Int32) then
      if x2 = (-1 : Int32) then
        some (x3, sg)
      else
        if x2 = (-2 : Int32) then
          some (x4, sg)
        else
          some (x5, sg)
    else
      f_Mod_wiresOf_101 (f_Mod_wiresOf_90 n) LF sg x2 x3 x4 x5 (-1 : Int32) (0 : Int32)
def f_Mod_wiresOf_66 (k2 : Hp → Int32 → Int32 → Int32 → Option (Int32 × Hp)) (k20 : Hp → Int32 → Int32 → Int32 → Int32 → Option (Int32 × Hp)) (sg : Hp) (x1 : Int32) (x2 : Int32) (x3 : Int32) (x4 : Int32) (xs1 : Int32) (xs2 : Int32) : Option (Int32 × Hp) :=
  if inb xs1 64 = true then
    (some (w2 sg 60 (xs1).toNatClampNeg xs2)).bind fun s12 =>
      k20 s12 x1 x2 x3 (x4 + (1 : Int32))
  else none
def f_Mod_wiresOf_65 (k2 : Hp → Int32 → Int32 → Int32 → Option (Int32 × Hp)) (k20 : Hp → Int32 → Int32 → Int32 → Int32 → Option (Int32 × Hp)) (sg : Hp) (x1 : Int32) (x2 : Int32) (x3 : Int32) (x4 : Int32) (xs1 : Int32) : Option (Int32 × Hp) :=
  f_Mod_wiresOf_66 k2 k20 sg x1 x2 x3 x4 xs1 (-1 : Int32)
def f_Mod_wiresOf_20 (k2 : Hp → Int32 → Int32 → Int32 → Option (Int32 × Hp)) : Nat → Hp → Int32 → Int32 → Int32 → Int32 → Option (Int32 × Hp)
  | 0, _, _, _, _, _ => none
  | n + 1, sg, x1, x2, x3, x4 =>
    if (8 : Int32) ≤ x4 then
      k2 sg x1 x2 (x3 + (1 : Int32))
    else
      (f_Mod_isIn sg x1 x3).bind fun y10 =>
        if y10.1 = (0 : Int32) then
          f_Mod_wiresOf_65 k2 (f_Mod_wiresOf_20 k2 n) y10.2 x1 x2 x3 x4 (((8 : Int32) * x3) + x4)
        else
          (f_Mod_isIn y10.2 x1 x4).bind fun y13 =>
            if y13.1 = (0 : Int32) then
              f_Mod_wiresOf_65 k2 (f_Mod_wiresOf_20 k2 n) y13.2 x1 x2 x3 x4 (((8 : Int32) * x3) + x4)
            else
              (f_Mod_shortestOf y13.2 x3 x4).bind fun y14 =>
                f_Mod_wiresOf_66 k2 (f_Mod_wiresOf_20 k2 n) y14.2 x1 x2 x3 x4 (((8 : Int32) * x3) + x4) y14.1
def f_Mod_wiresOf_2  : Nat → Hp → Int32 → Int32 → Int32 → Option (Int32 × Hp)
  | 0, _, _, _, _ => none
  | n + 1, sg, x1, x2, x3 =>
    if (8 : Int32) ≤ x3 then
      f_Mod_wiresOf_90  LF sg x2 (0 : Int32) (0 : Int32) (-1 : Int32) (1 : Int32)
    else
      if inb x3 8 = true then
        (some (w2 sg 61 (x3).toNatClampNeg x3)).bind fun s9 =>
          f_Mod_wiresOf_20 (f_Mod_wiresOf_2 n) LF s9 x1 x2 x3 (x3 + (1 : Int32))
      else none
def f_Mod_wiresOf (sg : Hp) (x1 : Int32) (x2 : Int32) : Option (Int32 × Hp) :=
  f_Mod_wiresOf_2  LF sg x1 x2 (0 : Int32)
/-! BoxSpiderModel.wires, method 165 -/
def f_Mod_wires (sg : Hp) (x1 : Int32) (x2 : Int32) : Option (Int32 × Hp) :=
  (f_Mod_in sg (x1).toInt64 (0 : Int64) (255 : Int64)).bind fun y1 =>
    if y1.1 = (0 : Int32) then
      some ((-2 : Int32), y1.2)
    else
      if x2 < (-2 : Int32) then
        some ((-2 : Int32), y1.2)
      else
        (f_Mod_wiresOf y1.2 x1 x2).bind fun y2 =>
          some (y2.1, y2.2)
/-! BoxSpider.isLength, method 71 -/
def f_Box_isLength (sg : Hp) (x0 : Int32) : Option (Int32 × Hp) :=
  if x0 < (0 : Int32) then
    some ((0 : Int32), sg)
  else
    if (9999 : Int32) < x0 then
      some ((0 : Int32), sg)
    else
      some ((1 : Int32), sg)
/-! BoxSpider.isNear, method 72 -/
def f_Box_isNear (sg : Hp) (x1 : Int32) (x2 : Int32) (x3 : Int32) : Option (Int32 × Hp) :=
  (f_Table_look sg x1 x2).bind fun y1 =>
    if inb y1.1 64 = true then
      if (y1.2 25 (y1.1).toNatClampNeg) = (-1 : Int32) then
        some ((0 : Int32), y1.2)
      else
        if x3 < (y1.2 25 (y1.1).toNatClampNeg) then
          some ((0 : Int32), y1.2)
        else
          some ((1 : Int32), y1.2)
    else none
/-! BoxSpider.within, method 70 -/
def f_Box_within_43 (k22 : Hp → Int32 → Int32 → Int32 → Int32 → Option (Int32 × Hp)) (sg : Hp) (x1 : Int32) (x2 : Int32) (x3 : Int32) (x4 : Int32) : Option (Int32 × Hp) :=
  k22 sg x1 x2 x3 (x4 + (1 : Int32))
def f_Box_within_22  : Nat → Hp → Int32 → Int32 → Int32 → Int32 → Option (Int32 × Hp)
  | 0, _, _, _, _, _ => none
  | n + 1, sg, x1, x2, x3, x4 =>
    if (8 : Int32) ≤ x4 then
      some (x3, sg)
    else
      (f_Box_isNear sg x1 x4 x2).bind fun y3 =>
        if y3.1 = (0 : Int32) then
          f_Box_within_43 (f_Box_within_22 n) y3.2 x1 x2 x3 x4
        else
          f_Box_within_43 (f_Box_within_22 n) y3.2 x1 x2 (x3 + (1 : Int32)) x4
def f_Box_within (sg : Hp) (x1 : Int32) (x2 : Int32) : Option (Int32 × Hp) :=
  (f_Box_isPlace sg x1).bind fun y1 =>
    if y1.1 = (0 : Int32) then
      some ((-2 : Int32), y1.2)
    else
      (f_Box_isLength y1.2 x2).bind fun y2 =>
        if y2.1 = (0 : Int32) then
          some ((-2 : Int32), y2.2)
        else
          f_Box_within_22  LF y2.2 x1 x2 (0 : Int32) (0 : Int32)
/-! BoxSpiderModel.withinOf, method 169 -/
def f_Mod_withinOf_35 (k5 : Hp → Int32 → Int32 → Int32 → Int32 → Option (Int32 × Hp)) (sg : Hp) (x1 : Int32) (x2 : Int32) (x4 : Int32) (xs0 : Int32) (xs1 : Int32) : Option (Int32 × Hp) :=
  k5 sg x1 x2 (xs0 + xs1) (x4 + (1 : Int32))
def f_Mod_withinOf_5  : Nat → Hp → Int32 → Int32 → Int32 → Int32 → Option (Int32 × Hp)
  | 0, _, _, _, _, _ => none
  | n + 1, sg, x1, x2, x3, x4 =>
    if (8 : Int32) ≤ x4 then
      some (x3, sg)
    else
      (f_Mod_shortestOf sg x1 x4).bind fun y1 =>
        (f_Mod_in y1.2 (y1.1).toInt64 (0 : Int64) (x2).toInt64).bind fun y2 =>
          if y2.1 = (0 : Int32) then
            f_Mod_withinOf_35 (f_Mod_withinOf_5 n) y2.2 x1 x2 x4 x3 (0 : Int32)
          else
            f_Mod_withinOf_35 (f_Mod_withinOf_5 n) y2.2 x1 x2 x4 x3 (1 : Int32)
def f_Mod_withinOf (sg : Hp) (x1 : Int32) (x2 : Int32) : Option (Int32 × Hp) :=
  f_Mod_withinOf_5  LF sg x1 x2 (0 : Int32) (0 : Int32)
/-! BoxSpiderModel.within, method 168 -/
def f_Mod_within (sg : Hp) (x1 : Int32) (x2 : Int32) : Option (Int32 × Hp) :=
  (f_Mod_isPlace sg x1).bind fun y1 =>
    if y1.1 = (0 : Int32) then
      some ((-2 : Int32), y1.2)
    else
      (f_Mod_in y1.2 (x2).toInt64 (0 : Int64) (9999 : Int64)).bind fun y2 =>
        if y2.1 = (0 : Int32) then
          some ((-2 : Int32), y2.2)
        else
          (f_Mod_withinOf y2.2 x1 x2).bind fun y3 =>
            some (y3.1, y3.2)
/-! BoxSpider.lineStaysWithin, method 74 -/
def f_Box_lineStaysWithin_7  : Nat → Hp → Int32 → Int32 → Option (Int32 × Hp)
  | 0, _, _, _ => none
  | n + 1, sg, x2, x3 =>
    if x2 ≤ x3 then
      some ((1 : Int32), sg)
    else
      if (sg 9 1) ≤ x3 then
        some ((1 : Int32), sg)
      else
        if inb x3 40 = true then
          (f_Rolls_rollOf sg (sg 10 (x3).toNatClampNeg)).bind fun y3 =>
            (f_Line_meets y3.2 34 33 y3.1).bind fun y4 =>
              if y4.1 = (0 : Int32) then
                some ((0 : Int32), y4.2)
              else
                (f_Stand_roll y4.2 33 y3.1).bind fun y5 =>
                  (f_Room_isBarred y5 (y3.2 33 0) (y5 33 0)).bind fun y6 =>
                    if y6.1 = (0 : Int32) then
                      f_Box_lineStaysWithin_7 n y6.2 x2 (x3 + (1 : Int32))
                    else
                      some ((0 : Int32), y6.2)
        else none
def f_Box_lineStaysWithin (sg : Hp) (x1 : Int32) (x2 : Int32) : Option (Int32 × Hp) :=
  (f_Box_standBehind sg x1).bind fun y1 =>
    f_Box_lineStaysWithin_7  LF y1 x2 x1
/-! BoxSpider.told, method 73 -/
def f_Box_told (sg : Hp) (x1 : Int32) (x2 : Int32) (x3 : Int32) (x4 : Int32) : Option (Int32 × Hp) :=
  (f_Box_isPlace sg x1).bind fun y1 =>
    if y1.1 = (0 : Int32) then
      some ((-2 : Int32), y1.2)
    else
      (f_Box_isPlace y1.2 x3).bind fun y2 =>
        if y2.1 = (0 : Int32) then
          some ((-2 : Int32), y2.2)
        else
          if x2 < (0 : Int32) then
            some ((-2 : Int32), y2.2)
          else
            if x4 < x2 then
              some ((-2 : Int32), y2.2)
            else
              (f_Rolls_valid y2.2 ).bind fun y3 =>
                if x4 ≤ y3.1 then
                  (f_Box_standBehind y3.2 x2).bind fun y4 =>
                    (f_Room_spotOf y4 x1 35).bind fun y5 =>
                      (f_Spot_isOn y5 35 (y5 33 0)).bind fun y6 =>
                        if y6.1 = (0 : Int32) then
                          some ((-3 : Int32), y6.2)
                        else
                          (f_Stand_planeX y6.2 33 35).bind fun y7 =>
                            (f_Stand_planeY y7.2 33 35).bind fun y8 =>
                              (f_Line_begin y8.2 34 y7.1 y8.1).bind fun y9 =>
                                (f_Box_standBehind y9 x4).bind fun y10 =>
                                  (f_Room_spotOf y10 x3 35).bind fun y11 =>
                                    (f_Spot_isOn y11 35 (y11 33 0)).bind fun y12 =>
                                      if y12.1 = (0 : Int32) then
                                        some ((-3 : Int32), y12.2)
                                      else
                                        (f_Stand_planeX y12.2 33 35).bind fun y13 =>
                                          (f_Stand_planeY y13.2 33 35).bind fun y14 =>
                                            (f_Line_end y14.2 34 y13.1 y14.1).bind fun y15 =>
                                              (f_Box_lineStaysWithin y15 x2 x4).bind fun y16 =>
                                                if y16.1 = (0 : Int32) then
                                                  some ((-3 : Int32), y16.2)
                                                else
                                                  (f_Line_square y16.2 34).bind fun y17 =>
                                                    some (y17.1, y17.2)
                else
                  some ((-2 : Int32), y3.2)
/-! BoxSpiderModel.toldOf, method 171 -/
def f_Mod_toldOf (sg : Hp) (x1 : Int32) (x2 : Int32) (x3 : Int32) (x4 : Int32) : Option (Int32 × Hp) :=
  (f_Mod_goesTo sg x4).bind fun y1 =>
    (f_Mod_faceAt y1 x2).bind fun y2 =>
      (f_Mod_isOn y2.2 y2.1 x1).bind fun y3 =>
        if y3.1 = (0 : Int32) then
          some ((-3 : Int32), y3.2)
        else
          (f_Mod_faceAt y3.2 x4).bind fun y4 =>
            (f_Mod_isOn y4.2 y4.1 x3).bind fun y5 =>
              if y5.1 = (0 : Int32) then
                some ((-3 : Int32), y5.2)
              else
                (f_Mod_lineOf y5.2 x1 x2 x3 x4).bind fun y6 =>
                  if y6.1 = (-1 : Int32) then
                    some ((-3 : Int32), y6.2)
                  else
                    some (y6.1, y6.2)
/-! BoxSpiderModel.told, method 170 -/
def f_Mod_told (sg : Hp) (x1 : Int32) (x2 : Int32) (x3 : Int32) (x4 : Int32) : Option (Int32 × Hp) :=
  (f_Mod_isPlace sg x1).bind fun y1 =>
    if y1.1 = (0 : Int32) then
      some ((-2 : Int32), y1.2)
    else
      (f_Mod_isPlace y1.2 x3).bind fun y2 =>
        if y2.1 = (0 : Int32) then
          some ((-2 : Int32), y2.2)
        else
          (f_Mod_rolls y2.2 ).bind fun y3 =>
            (f_Mod_in y3.2 (x4).toInt64 (0 : Int64) (y3.1).toInt64).bind fun y4 =>
              if y4.1 = (0 : Int32) then
                some ((-2 : Int32), y4.2)
              else
                (f_Mod_in y4.2 (x2).toInt64 (0 : Int64) (x4).toInt64).bind fun y5 =>
                  if y5.1 = (0 : Int32) then
                    some ((-2 : Int32), y5.2)
                  else
                    (f_Mod_toldOf y5.2 x1 x2 x3 x4).bind fun y6 =>
                      some (y6.1, y6.2)
/-! BoxSpider.isSlope, method 76 -/
def f_Box_isSlope (sg : Hp) (x0 : Int32) : Option (Int32 × Hp) :=
  if x0 < (-9 : Int32) then
    some ((0 : Int32), sg)
  else
    if (9 : Int32) < x0 then
      some ((0 : Int32), sg)
    else
      some ((1 : Int32), sg)
/-! BoxSpider.nextRoll, method 77 -/
def f_Box_nextRoll_78  (sg : Hp) (x1 : Int32) (x2 : Int32) (x5 : Int32) (xs0 : Int32) : Option (Int32 × Hp) :=
  if (x5 * (if 0 ≤ x2 then x2 else 0 - x2)) = (xs0 * (if 0 ≤ x1 then x1 else 0 - x1)) then
    some ((0 : Int32), sg)
  else
    if (xs0 * (if 0 ≤ x1 then x1 else 0 - x1)) ≤ (x5 * (if 0 ≤ x2 then x2 else 0 - x2)) then
      if x2 ≤ (0 : Int32) then
        some ((4 : Int32), sg)
      else
        some ((3 : Int32), sg)
    else
      if x1 ≤ (0 : Int32) then
        some ((2 : Int32), sg)
      else
        some ((1 : Int32), sg)
def f_Box_nextRoll_37  (sg : Hp) (x1 : Int32) (x2 : Int32) (x4 : Int32) (xs0 : Int32) : Option (Int32 × Hp) :=
  if x2 ≤ (0 : Int32) then
    f_Box_nextRoll_78  sg x1 x2 xs0 (x4 - ((2 : Int32) * (sg 33 4)))
  else
    f_Box_nextRoll_78  sg x1 x2 xs0 (((2 : Int32) * ((sg 33 4) + (sg 33 6))) - x4)
def f_Box_nextRoll (sg : Hp) (x1 : Int32) (x2 : Int32) (x3 : Int32) (x4 : Int32) : Option (Int32 × Hp) :=
  if x1 ≤ (0 : Int32) then
    f_Box_nextRoll_37  sg x1 x2 x4 (x3 - ((2 : Int32) * (sg 33 3)))
  else
    f_Box_nextRoll_37  sg x1 x2 x4 (((2 : Int32) * ((sg 33 3) + (sg 33 5))) - x3)
/-! BoxSpider.snail, method 75 -/
def f_Box_snail_78  : Nat → Hp → Int32 → Int32 → Int32 → Int32 → Int32 → Int32 → Int32 → Int32 → Option (Int32 × Hp)
  | 0, _, _, _, _, _, _, _, _, _ => none
  | n + 1, sg, x1, x2, x3, x4, x5, x6, x7, x8 =>
    if x3 ≤ x8 then
      if x4 = (0 : Int32) then
        some ((sg 33 0), sg)
      else
        some (x7, sg)
    else
      (f_Box_nextRoll sg x1 x2 x5 x6).bind fun y4 =>
        if y4.1 = (0 : Int32) then
          some ((-1 : Int32), y4.2)
        else
          (f_Stand_roll y4.2 33 y4.1).bind fun y5 =>
            f_Box_snail_78 n y5 x1 x2 x3 x4 x5 x6 y4.1 (x8 + (1 : Int32))
def f_Box_snail_25  (sg : Hp) (x1 : Int32) (x2 : Int32) (x3 : Int32) (x4 : Int32) : Option (Int32 × Hp) :=
  if x3 < (0 : Int32) then
    some ((-2 : Int32), sg)
  else
    if (30 : Int32) < x3 then
      some ((-2 : Int32), sg)
    else
      if x4 < (0 : Int32) then
        some ((-2 : Int32), sg)
      else
        if x4 ≤ (1 : Int32) then
          (f_Box_standBehind sg (0 : Int32)).bind fun y3 =>
            f_Box_snail_78  LF y3 x1 x2 x3 x4 (y3 33 5) (y3 33 6) (0 : Int32) (0 : Int32)
        else
          some ((-2 : Int32), sg)
def f_Box_snail (sg : Hp) (x1 : Int32) (x2 : Int32) (x3 : Int32) (x4 : Int32) : Option (Int32 × Hp) :=
  (f_Box_isSlope sg x1).bind fun y1 =>
    if y1.1 = (0 : Int32) then
      some ((-2 : Int32), y1.2)
    else
      (f_Box_isSlope y1.2 x2).bind fun y2 =>
        if y2.1 = (0 : Int32) then
          some ((-2 : Int32), y2.2)
        else
          if x1 = (0 : Int32) then
            if x2 = (0 : Int32) then
              some ((-2 : Int32), y2.2)
            else
              f_Box_snail_25  y2.2 x1 x2 x3 x4
          else
            f_Box_snail_25  y2.2 x1 x2 x3 x4
/-! BoxSpiderModel.snailOf, method 173 -/
def f_Mod_snailOf_217 (k26 : Hp → Int32 → Int32 → Int32 → Int32 → Int32 → Int32 → Int32 → Int32 → Option (Int32 × Hp)) : Nat → Hp → Int32 → Int32 → Int32 → Int32 → Int32 → Int32 → Int32 → Int32 → Int32 → Option (Int32 × Hp)
  | 0, _, _, _, _, _, _, _, _, _, _ => none
  | n + 1, sg, x1, x2, x3, x4, x5, x6, x7, x8, x14 =>
    if (14 : Int32) ≤ x14 then
      k26 sg x1 x2 x3 x4 x5 x6 x7 (x8 + (1 : Int32))
    else
      if inb ((14 : Int32) + x14) 560 = true then
        if inb x14 560 = true then
          (some (w2 sg 55 (x14).toNatClampNeg (sg 55 (((14 : Int32) + x14)).toNatClampNeg))).bind fun s8 =>
            f_Mod_snailOf_217 k26 n s8 x1 x2 x3 x4 x5 x6 x7 x8 (x14 + (1 : Int32))
        else none
      else none
def f_Mod_snailOf_205 (k26 : Hp → Int32 → Int32 → Int32 → Int32 → Int32 → Int32 → Int32 → Int32 → Option (Int32 × Hp)) (sg : Hp) (x1 : Int32) (x2 : Int32) (x3 : Int32) (x4 : Int32) (x5 : Int32) (x6 : Int32) (x8 : Int32) (xs0 : Int32) : Option (Int32 × Hp) :=
  (f_Mod_turns sg (0 : Int32) xs0).bind fun y5 =>
    f_Mod_snailOf_217 k26 LF y5 x1 x2 x3 x4 x5 x6 xs0 x8 (0 : Int32)
def f_Mod_snailOf_177 (k26 : Hp → Int32 → Int32 → Int32 → Int32 → Int32 → Int32 → Int32 → Int32 → Option (Int32 × Hp)) (sg : Hp) (x1 : Int32) (x2 : Int32) (x3 : Int32) (x4 : Int32) (x5 : Int32) (x6 : Int32) (x8 : Int32) (xs0 : Int32) : Option (Int32 × Hp) :=
  if xs0 = (0 : Int32) then
    if x2 ≤ (0 : Int32) then
      f_Mod_snailOf_205 k26 sg x1 x2 x3 x4 x5 x6 x8 (3 : Int32)
    else
      f_Mod_snailOf_205 k26 sg x1 x2 x3 x4 x5 x6 x8 (2 : Int32)
  else
    if x1 ≤ (0 : Int32) then
      f_Mod_snailOf_205 k26 sg x1 x2 x3 x4 x5 x6 x8 (1 : Int32)
    else
      f_Mod_snailOf_205 k26 sg x1 x2 x3 x4 x5 x6 x8 (0 : Int32)
def f_Mod_snailOf_172 (k26 : Hp → Int32 → Int32 → Int32 → Int32 → Int32 → Int32 → Int32 → Int32 → Option (Int32 × Hp)) (sg : Hp) (x1 : Int32) (x2 : Int32) (x3 : Int32) (x4 : Int32) (x5 : Int32) (x6 : Int32) (x8 : Int32) : Option (Int32 × Hp) :=
  f_Mod_snailOf_177 k26 sg x1 x2 x3 x4 x5 x6 x8 (1 : Int32)
def f_Mod_snailOf_176 (k26 : Hp → Int32 → Int32 → Int32 → Int32 → Int32 → Int32 → Int32 → Int32 → Option (Int32 × Hp)) (sg : Hp) (x1 : Int32) (x2 : Int32) (x3 : Int32) (x4 : Int32) (x5 : Int32) (x6 : Int32) (x8 : Int32) : Option (Int32 × Hp) :=
  f_Mod_snailOf_177 k26 sg x1 x2 x3 x4 x5 x6 x8 (0 : Int32)
def f_Mod_snailOf_157 (k26 : Hp → Int32 → Int32 → Int32 → Int32 → Int32 → Int32 → Int32 → Int32 → Option (Int32 × Hp)) (sg : Hp) (x1 : Int32) (x2 : Int32) (x3 : Int32) (x4 : Int32) (x5 : Int32) (x6 : Int32) (x8 : Int32) (x11 : Int32) (x12 : Int32) : Option (Int32 × Hp) :=
  if x2 = (0 : Int32) then
    f_Mod_snailOf_172 k26 sg x1 x2 x3 x4 x5 x6 x8
  else
    if x1 = (0 : Int32) then
      f_Mod_snailOf_176 k26 sg x1 x2 x3 x4 x5 x6 x8
    else
      if x12 ≤ x11 then
        f_Mod_snailOf_176 k26 sg x1 x2 x3 x4 x5 x6 x8
      else
        f_Mod_snailOf_172 k26 sg x1 x2 x3 x4 x5 x6 x8
def f_Mod_snailOf_137 (k26 : Hp → Int32 → Int32 → Int32 → Int32 → Int32 → Int32 → Int32 → Int32 → Option (Int32 × Hp)) (sg : Hp) (x1 : Int32) (x2 : Int32) (x3 : Int32) (x4 : Int32) (x5 : Int32) (x6 : Int32) (x8 : Int32) (x11 : Int32) (xs0 : Int32) (xs1 : Int32) : Option (Int32 × Hp) :=
  if x1 = (0 : Int32) then
    f_Mod_snailOf_157 k26 sg x1 x2 x3 x4 x5 x6 x8 x11 (xs0 * xs1)
  else
    if x2 = (0 : Int32) then
      f_Mod_snailOf_157 k26 sg x1 x2 x3 x4 x5 x6 x8 x11 (xs0 * xs1)
    else
      if x11 = (xs0 * xs1) then
        some ((-1 : Int32), sg)
      else
        f_Mod_snailOf_157 k26 sg x1 x2 x3 x4 x5 x6 x8 x11 (xs0 * xs1)
def f_Mod_snailOf_127 (k26 : Hp → Int32 → Int32 → Int32 → Int32 → Int32 → Int32 → Int32 → Int32 → Option (Int32 × Hp)) (sg : Hp) (x1 : Int32) (x2 : Int32) (x3 : Int32) (x4 : Int32) (x5 : Int32) (x6 : Int32) (x8 : Int32) (x11 : Int32) (xs0 : Int32) : Option (Int32 × Hp) :=
  if (0 : Int32) ≤ x1 then
    f_Mod_snailOf_137 k26 sg x1 x2 x3 x4 x5 x6 x8 x11 xs0 x1
  else
    f_Mod_snailOf_137 k26 sg x1 x2 x3 x4 x5 x6 x8 x11 xs0 (-x1)
def f_Mod_snailOf_111 (k26 : Hp → Int32 → Int32 → Int32 → Int32 → Int32 → Int32 → Int32 → Int32 → Option (Int32 × Hp)) (sg : Hp) (x1 : Int32) (x2 : Int32) (x3 : Int32) (x4 : Int32) (x5 : Int32) (x6 : Int32) (x8 : Int32) (x10 : Int32) (xs0 : Int32) (xs1 : Int32) : Option (Int32 × Hp) :=
  if (0 : Int32) ≤ x10 then
    f_Mod_snailOf_127 k26 sg x1 x2 x3 x4 x5 x6 x8 (xs0 * xs1) x10
  else
    f_Mod_snailOf_127 k26 sg x1 x2 x3 x4 x5 x6 x8 (xs0 * xs1) (-x10)
def f_Mod_snailOf_101 (k26 : Hp → Int32 → Int32 → Int32 → Int32 → Int32 → Int32 → Int32 → Int32 → Option (Int32 × Hp)) (sg : Hp) (x1 : Int32) (x2 : Int32) (x3 : Int32) (x4 : Int32) (x5 : Int32) (x6 : Int32) (x8 : Int32) (x10 : Int32) (xs0 : Int32) : Option (Int32 × Hp) :=
  if (0 : Int32) ≤ x2 then
    f_Mod_snailOf_111 k26 sg x1 x2 x3 x4 x5 x6 x8 x10 xs0 x2
  else
    f_Mod_snailOf_111 k26 sg x1 x2 x3 x4 x5 x6 x8 x10 xs0 (-x2)
def f_Mod_snailOf_81 (k26 : Hp → Int32 → Int32 → Int32 → Int32 → Int32 → Int32 → Int32 → Int32 → Option (Int32 × Hp)) (sg : Hp) (x1 : Int32) (x2 : Int32) (x3 : Int32) (x4 : Int32) (x5 : Int32) (x6 : Int32) (x8 : Int32) (x9 : Int32) (xs0 : Int32) (xs1 : Int32) (xs2 : Int32) : Option (Int32 × Hp) :=
  if (0 : Int32) ≤ x9 then
    f_Mod_snailOf_101 k26 sg x1 x2 x3 x4 x5 x6 x8 ((xs0 * (xs1 + xs2)) - x6) x9
  else
    f_Mod_snailOf_101 k26 sg x1 x2 x3 x4 x5 x6 x8 ((xs0 * (xs1 + xs2)) - x6) (-x9)
def f_Mod_snailOf_53 (k26 : Hp → Int32 → Int32 → Int32 → Int32 → Int32 → Int32 → Int32 → Int32 → Option (Int32 × Hp)) (sg : Hp) (x1 : Int32) (x2 : Int32) (x3 : Int32) (x4 : Int32) (x5 : Int32) (x6 : Int32) (x8 : Int32) (xs0 : Int32) (xs1 : Int32) (xs2 : Int32) : Option (Int32 × Hp) :=
  (f_Mod_southWest sg (0 : Int32) (1 : Int32)).bind fun y4 =>
    if x2 ≤ (0 : Int32) then
      f_Mod_snailOf_81 k26 y4.2 x1 x2 x3 x4 x5 x6 x8 ((xs0 * (xs1 + xs2)) - x5) (2 : Int32) y4.1 (0 : Int32)
    else
      (f_Mod_far y4.2 (0 : Int32) (3 : Int32)).bind fun y9 =>
        f_Mod_snailOf_81 k26 y9.2 x1 x2 x3 x4 x5 x6 x8 ((xs0 * (xs1 + xs2)) - x5) (2 : Int32) y4.1 y9.1
def f_Mod_snailOf_26  : Nat → Hp → Int32 → Int32 → Int32 → Int32 → Int32 → Int32 → Int32 → Int32 → Option (Int32 × Hp)
  | 0, _, _, _, _, _, _, _, _, _ => none
  | n + 1, sg, x1, x2, x3, x4, x5, x6, x7, x8 =>
    if x3 ≤ x8 then
      if x4 = (0 : Int32) then
        (f_Mod_faceAt sg (0 : Int32)).bind fun y2 =>
          some (y2.1, y2.2)
      else
        some ((x7 + (1 : Int32)), sg)
    else
      (f_Mod_southWest sg (0 : Int32) (0 : Int32)).bind fun y3 =>
        if x1 ≤ (0 : Int32) then
          f_Mod_snailOf_53 (f_Mod_snailOf_26 n) y3.2 x1 x2 x3 x4 x5 x6 x8 (2 : Int32) y3.1 (0 : Int32)
        else
          (f_Mod_far y3.2 (0 : Int32) (0 : Int32)).bind fun y10 =>
            f_Mod_snailOf_53 (f_Mod_snailOf_26 n) y10.2 x1 x2 x3 x4 x5 x6 x8 (2 : Int32) y3.1 y10.1
def f_Mod_snailOf (sg : Hp) (x1 : Int32) (x2 : Int32) (x3 : Int32) (x4 : Int32) : Option (Int32 × Hp) :=
  (f_Mod_begins sg ).bind fun y1 =>
    f_Mod_snailOf_26  LF y1 x1 x2 x3 x4 (y1 51 0) (y1 51 1) (-1 : Int32) (0 : Int32)
/-! BoxSpiderModel.snail, method 172 -/
def f_Mod_snail_41  (sg : Hp) (x1 : Int32) (x2 : Int32) (x3 : Int32) (x4 : Int32) (xs0 : Int32) : Option (Int32 × Hp) :=
  if xs0 = (0 : Int32) then
    some ((-2 : Int32), sg)
  else
    (f_Mod_in sg (x3).toInt64 (0 : Int64) (30 : Int64)).bind fun y2 =>
      if y2.1 = (0 : Int32) then
        some ((-2 : Int32), y2.2)
      else
        (f_Mod_isTwo y2.2 x4).bind fun y3 =>
          if y3.1 = (0 : Int32) then
            some ((-2 : Int32), y3.2)
          else
            (f_Mod_snailOf y3.2 x1 x2 x3 x4).bind fun y4 =>
              some (y4.1, y4.2)
def f_Mod_snail_40  (sg : Hp) (x1 : Int32) (x2 : Int32) (x3 : Int32) (x4 : Int32) : Option (Int32 × Hp) :=
  f_Mod_snail_41  sg x1 x2 x3 x4 (0 : Int32)
def f_Mod_snail_36  (sg : Hp) (x1 : Int32) (x2 : Int32) (x3 : Int32) (x4 : Int32) : Option (Int32 × Hp) :=
  f_Mod_snail_41  sg x1 x2 x3 x4 (1 : Int32)
def f_Mod_snail (sg : Hp) (x1 : Int32) (x2 : Int32) (x3 : Int32) (x4 : Int32) : Option (Int32 × Hp) :=
  (f_Mod_in sg (x1).toInt64 (-9 : Int64) (9 : Int64)).bind fun y1 =>
    if y1.1 = (0 : Int32) then
      f_Mod_snail_40  y1.2 x1 x2 x3 x4
    else
      (f_Mod_in y1.2 (x2).toInt64 (-9 : Int64) (9 : Int64)).bind fun y5 =>
        if y5.1 = (0 : Int32) then
          f_Mod_snail_40  y5.2 x1 x2 x3 x4
        else
          if x1 = (0 : Int32) then
            if x2 = (0 : Int32) then
              f_Mod_snail_40  y5.2 x1 x2 x3 x4
            else
              f_Mod_snail_36  y5.2 x1 x2 x3 x4
          else
            f_Mod_snail_36  y5.2 x1 x2 x3 x4
/-! BoxSpider.lengthIfHigh, method 79 -/
def f_Box_lengthIfHigh (sg : Hp) (x1 : Int32) (x2 : Int32) (x3 : Int32) : Option (Int32 × Hp) :=
  if cpok (0 : Int32) (0 : Int32) (3 : Int32) 3 3 = true then
    (some (cp2 sg 2 37 (0 : Int32) (0 : Int32) (3 : Int32))).bind fun s2 =>
      (some (w2 s2 37 0 x3)).bind fun s3 =>
        if inb x1 8 = true then
          if inb x1 8 = true then
            if inb x1 8 = true then
              (f_Spot_set s3 12 37 (s3 3 (x1).toNatClampNeg) (s3 4 (x1).toNatClampNeg) (s3 5 (x1).toNatClampNeg)).bind fun y7 =>
                if inb x2 8 = true then
                  if inb x2 8 = true then
                    if inb x2 8 = true then
                      (f_Spot_set y7 14 37 (y7 3 (x2).toNatClampNeg) (y7 4 (x2).toNatClampNeg) (y7 5 (x2).toNatClampNeg)).bind fun y11 =>
                        (f_Spot_isOnBox y11 12).bind fun y12 =>
                          if y12.1 = (0 : Int32) then
                            some ((-3 : Int32), y12.2)
                          else
                            (f_Spot_isOnBox y12.2 14).bind fun y13 =>
                              if y13.1 = (0 : Int32) then
                                some ((-3 : Int32), y13.2)
                              else
                                (f_Search_find y13.2 37).bind fun y14 =>
                                  some ((y14 11 7), y14)
                    else none
                  else none
                else none
            else none
          else none
        else none
  else none
/-! BoxSpider.thread, method 78 -/
def f_Box_thread_70 (k45 : Hp → Int32 → Int32 → Int32 → Int32 → Int32 → Int32 → Int32 → Option (Int32 × Hp)) (sg : Hp) (x1 : Int32) (x2 : Int32) (x3 : Int32) (x4 : Int32) (x5 : Int32) (x6 : Int32) (x7 : Int32) : Option (Int32 × Hp) :=
  k45 sg x1 x2 x3 x4 x5 x6 (x7 + (-1 : Int32))
def f_Box_thread_45  : Nat → Hp → Int32 → Int32 → Int32 → Int32 → Int32 → Int32 → Int32 → Option (Int32 × Hp)
  | 0, _, _, _, _, _, _, _, _ => none
  | n + 1, sg, x1, x2, x3, x4, x5, x6, x7 =>
    if x7 < (1 : Int32) then
      if x4 = (0 : Int32) then
        some (x5, sg)
      else
        some (x6, sg)
    else
      (f_Box_lengthIfHigh sg x1 x2 x7).bind fun y4 =>
        if y4.1 = x3 then
          f_Box_thread_70 (f_Box_thread_45 n) y4.2 x1 x2 x3 x4 (x5 + (1 : Int32)) x7 x7
        else
          f_Box_thread_70 (f_Box_thread_45 n) y4.2 x1 x2 x3 x4 x5 x6 x7
def f_Box_thread (sg : Hp) (x1 : Int32) (x2 : Int32) (x3 : Int32) (x4 : Int32) : Option (Int32 × Hp) :=
  (f_Box_isPlace sg x1).bind fun y1 =>
    if y1.1 = (0 : Int32) then
      some ((-2 : Int32), y1.2)
    else
      (f_Box_isPlace y1.2 x2).bind fun y2 =>
        if y2.1 = (0 : Int32) then
          some ((-2 : Int32), y2.2)
        else
          (f_Box_isLength y2.2 x3).bind fun y3 =>
            if y3.1 = (0 : Int32) then
              some ((-2 : Int32), y3.2)
            else
              if x4 < (0 : Int32) then
                some ((-2 : Int32), y3.2)
              else
                if x4 ≤ (1 : Int32) then
                  f_Box_thread_45  LF y3.2 x1 x2 x3 x4 (0 : Int32) (-1 : Int32) (30 : Int32)
                else
                  some ((-2 : Int32), y3.2)
/-! BoxSpiderModel.threadOf, method 175 -/
def f_Mod_threadOf_76 (k17 : Hp → Int32 → Int32 → Int32 → Int32 → Int32 → Int32 → Int32 → Int32 → Option (Int32 × Hp)) (sg : Hp) (x1 : Int32) (x2 : Int32) (x3 : Int32) (x4 : Int32) (x5 : Int32) (x6 : Int32) (x7 : Int32) (x8 : Int32) : Option (Int32 × Hp) :=
  k17 sg x1 x2 x3 x4 x5 x6 x7 (x8 + (1 : Int32))
def f_Mod_threadOf_74 (k17 : Hp → Int32 → Int32 → Int32 → Int32 → Int32 → Int32 → Int32 → Int32 → Option (Int32 × Hp)) (sg : Hp) (x1 : Int32) (x2 : Int32) (x3 : Int32) (x4 : Int32) (x5 : Int32) (x6 : Int32) (x8 : Int32) (xs0 : Int32) : Option (Int32 × Hp) :=
  f_Mod_threadOf_76 k17 sg x1 x2 x3 x4 x5 x6 xs0 x8
def f_Mod_threadOf_17  : Nat → Hp → Int32 → Int32 → Int32 → Int32 → Int32 → Int32 → Int32 → Int32 → Option (Int32 × Hp)
  | 0, _, _, _, _, _, _, _, _, _ => none
  | n + 1, sg, x1, x2, x3, x4, x5, x6, x7, x8 =>
    if (30 : Int32) < x8 then
      (some (w2 sg 51 2 x5)).bind fun s1 =>
        if x4 = (0 : Int32) then
          some (x6, s1)
        else
          some (x7, s1)
    else
      (some (w2 sg 51 2 x8)).bind fun s2 =>
        (f_Mod_isThere s2 x1).bind fun y3 =>
          if y3.1 = (0 : Int32) then
            f_Mod_threadOf_76 (f_Mod_threadOf_17 n) y3.2 x1 x2 x3 x4 x5 x6 x7 x8
          else
            (f_Mod_isThere y3.2 x2).bind fun y4 =>
              if y4.1 = (0 : Int32) then
                f_Mod_threadOf_76 (f_Mod_threadOf_17 n) y4.2 x1 x2 x3 x4 x5 x6 x7 x8
              else
                (f_Mod_shortestOf y4.2 x1 x2).bind fun y5 =>
                  if y5.1 = x3 then
                    if x7 = (-1 : Int32) then
                      f_Mod_threadOf_74 (f_Mod_threadOf_17 n) y5.2 x1 x2 x3 x4 x5 (x6 + (1 : Int32)) x8 x8
                    else
                      f_Mod_threadOf_74 (f_Mod_threadOf_17 n) y5.2 x1 x2 x3 x4 x5 (x6 + (1 : Int32)) x8 x7
                  else
                    f_Mod_threadOf_76 (f_Mod_threadOf_17 n) y5.2 x1 x2 x3 x4 x5 x6 x7 x8
def f_Mod_threadOf (sg : Hp) (x1 : Int32) (x2 : Int32) (x3 : Int32) (x4 : Int32) : Option (Int32 × Hp) :=
  f_Mod_threadOf_17  LF sg x1 x2 x3 x4 (sg 51 2) (0 : Int32) (-1 : Int32) (1 : Int32)
/-! BoxSpiderModel.thread, method 174 -/
def f_Mod_thread (sg : Hp) (x1 : Int32) (x2 : Int32) (x3 : Int32) (x4 : Int32) : Option (Int32 × Hp) :=
  (f_Mod_isPlace sg x1).bind fun y1 =>
    if y1.1 = (0 : Int32) then
      some ((-2 : Int32), y1.2)
    else
      (f_Mod_isPlace y1.2 x2).bind fun y2 =>
        if y2.1 = (0 : Int32) then
          some ((-2 : Int32), y2.2)
        else
          (f_Mod_in y2.2 (x3).toInt64 (0 : Int64) (9999 : Int64)).bind fun y3 =>
            if y3.1 = (0 : Int32) then
              some ((-2 : Int32), y3.2)
            else
              (f_Mod_isTwo y3.2 x4).bind fun y4 =>
                if y4.1 = (0 : Int32) then
                  some ((-2 : Int32), y4.2)
                else
                  (f_Mod_threadOf y4.2 x1 x2 x3 x4).bind fun y5 =>
                    some (y5.1, y5.2)
/-! BoxSpider.flies, method 80 -/
def f_Box_flies_76 (k37 : Hp → Int32 → Int32 → Int32 → Int32 → Int32 → Int32 → Option (Int32 × Hp)) (sg : Hp) (x1 : Int32) (x3 : Int32) (x4 : Int32) (x5 : Int32) (x6 : Int32) (x7 : Int32) : Option (Int32 × Hp) :=
  k37 sg x1 x3 x4 x5 x6 (x7 + (1 : Int32))
def f_Box_flies_37  : Nat → Hp → Int32 → Int32 → Int32 → Int32 → Int32 → Int32 → Option (Int32 × Hp)
  | 0, _, _, _, _, _, _, _ => none
  | n + 1, sg, x1, x3, x4, x5, x6, x7 =>
    if x3 ≤ x7 then
      some (x5, sg)
    else
      (f_Box_isNear sg x1 (((((1103515245 : Int32) * x6) + (12345 : Int32)).toUInt32 >>> ((16 : Int32).toUInt32 &&& Int32.toUInt32 31)).toInt32 - ((((1103515245 : Int32) * x6) + (12345 : Int32)).toUInt32 >>> ((16 : Int32).toUInt32 &&& Int32.toUInt32 31)).toInt32 / (8 : Int32) * (8 : Int32)) x4).bind fun y3 =>
        if y3.1 = (0 : Int32) then
          f_Box_flies_76 (f_Box_flies_37 n) y3.2 x1 x3 x4 x5 (((1103515245 : Int32) * x6) + (12345 : Int32)) x7
        else
          f_Box_flies_76 (f_Box_flies_37 n) y3.2 x1 x3 x4 (x5 + (1 : Int32)) (((1103515245 : Int32) * x6) + (12345 : Int32)) x7
def f_Box_flies (sg : Hp) (x1 : Int32) (x2 : Int32) (x3 : Int32) (x4 : Int32) : Option (Int32 × Hp) :=
  (f_Box_isPlace sg x1).bind fun y1 =>
    if y1.1 = (0 : Int32) then
      some ((-2 : Int32), y1.2)
    else
      if x3 < (0 : Int32) then
        some ((-2 : Int32), y1.2)
      else
        if (99 : Int32) < x3 then
          some ((-2 : Int32), y1.2)
        else
          (f_Box_isLength y1.2 x4).bind fun y2 =>
            if y2.1 = (0 : Int32) then
              some ((-2 : Int32), y2.2)
            else
              f_Box_flies_37  LF y2.2 x1 x3 x4 (0 : Int32) x2 (0 : Int32)
/-! BoxSpiderModel.fliesOf, method 177 -/
def f_Mod_fliesOf_55  : Nat → Hp → Int32 → Int32 → Int32 → Int32 → Option (Int32 × Hp)
  | 0, _, _, _, _, _ => none
  | n + 1, sg, x3, x5, x6, x7 =>
    if x3 ≤ x7 then
      some (x6, sg)
    else
      if inb (((((1103515245 : Int32) * x5) + (12345 : Int32)).toUInt32 >>> ((16 : Int32).toUInt32 &&& Int32.toUInt32 31)).toInt32 - ((((1103515245 : Int32) * x5) + (12345 : Int32)).toUInt32 >>> ((16 : Int32).toUInt32 &&& Int32.toUInt32 31)).toInt32 / (8 : Int32) * (8 : Int32)) 8 = true then
        f_Mod_fliesOf_55 n sg x3 (((1103515245 : Int32) * x5) + (12345 : Int32)) (x6 + (sg 62 ((((((1103515245 : Int32) * x5) + (12345 : Int32)).toUInt32 >>> ((16 : Int32).toUInt32 &&& Int32.toUInt32 31)).toInt32 - ((((1103515245 : Int32) * x5) + (12345 : Int32)).toUInt32 >>> ((16 : Int32).toUInt32 &&& Int32.toUInt32 31)).toInt32 / (8 : Int32) * (8 : Int32))).toNatClampNeg)) (x7 + (1 : Int32))
      else none
def f_Mod_fliesOf_39 (k3 : Hp → Int32 → Int32 → Int32 → Int32 → Int32 → Option (Int32 × Hp)) (sg : Hp) (x1 : Int32) (x2 : Int32) (x3 : Int32) (x4 : Int32) (x5 : Int32) (xs1 : Int32) (xs2 : Int32) : Option (Int32 × Hp) :=
  if inb xs1 8 = true then
    (some (w2 sg 62 (xs1).toNatClampNeg xs2)).bind fun s5 =>
      k3 s5 x1 x2 x3 x4 (x5 + (1 : Int32))
  else none
def f_Mod_fliesOf_3  : Nat → Hp → Int32 → Int32 → Int32 → Int32 → Int32 → Option (Int32 × Hp)
  | 0, _, _, _, _, _, _ => none
  | n + 1, sg, x1, x2, x3, x4, x5 =>
    if (8 : Int32) ≤ x5 then
      f_Mod_fliesOf_55  LF sg x3 x2 (0 : Int32) (0 : Int32)
    else
      (f_Mod_shortestOf sg x1 x5).bind fun y2 =>
        (f_Mod_in y2.2 (y2.1).toInt64 (0 : Int64) (x4).toInt64).bind fun y3 =>
          if y3.1 = (0 : Int32) then
            f_Mod_fliesOf_39 (f_Mod_fliesOf_3 n) y3.2 x1 x2 x3 x4 x5 x5 (0 : Int32)
          else
            f_Mod_fliesOf_39 (f_Mod_fliesOf_3 n) y3.2 x1 x2 x3 x4 x5 x5 (1 : Int32)
def f_Mod_fliesOf (sg : Hp) (x1 : Int32) (x2 : Int32) (x3 : Int32) (x4 : Int32) : Option (Int32 × Hp) :=
  f_Mod_fliesOf_3  LF sg x1 x2 x3 x4 (0 : Int32)
/-! BoxSpiderModel.flies, method 176 -/
def f_Mod_flies (sg : Hp) (x1 : Int32) (x2 : Int32) (x3 : Int32) (x4 : Int32) : Option (Int32 × Hp) :=
  (f_Mod_isPlace sg x1).bind fun y1 =>
    if y1.1 = (0 : Int32) then
      some ((-2 : Int32), y1.2)
    else
      (f_Mod_in y1.2 (x3).toInt64 (0 : Int64) (99 : Int64)).bind fun y2 =>
        if y2.1 = (0 : Int32) then
          some ((-2 : Int32), y2.2)
        else
          (f_Mod_in y2.2 (x4).toInt64 (0 : Int64) (9999 : Int64)).bind fun y3 =>
            if y3.1 = (0 : Int32) then
              some ((-2 : Int32), y3.2)
            else
              (f_Mod_fliesOf y3.2 x1 x2 x3 x4).bind fun y4 =>
                some (y4.1, y4.2)
/-! BoxSpider.isForm, method 82 -/
def f_Box_isForm (sg : Hp) (x0 : Int32) : Option (Int32 × Hp) :=
  if x0 < (0 : Int32) then
    some ((0 : Int32), sg)
  else
    if (3 : Int32) ≤ x0 then
      some ((0 : Int32), sg)
    else
      some ((1 : Int32), sg)
/-! BoxSpider$Sheet.renew, method 83 -/
def f_Sheet_renew_12  : Nat → Hp → Nat → Int32 → Option (Hp)
  | 0, _, _, _ => none
  | n + 1, sg, a0, x3 =>
    if (60 : Int32) ≤ x3 then
      some sg
    else
      if inb x3 60 = true then
        (some (w2 sg (rt a0 0) (x3).toNatClampNeg (0 : Int32))).bind fun s4 =>
          f_Sheet_renew_12 n s4 a0 (x3 + (1 : Int32))
      else none
def f_Sheet_renew (sg : Hp) (a0 : Nat) (x1 : Int32) (x2 : Int32) : Option (Hp) :=
  (some (w2 sg a0 1 x1)).bind fun s1 =>
    (some (w2 s1 a0 2 x2)).bind fun s2 =>
      f_Sheet_renew_12  LF s2 a0 (0 : Int32)
/-! BoxSpider.sheet, method 81 -/
def f_Box_sheet (sg : Hp) (x1 : Int32) (x2 : Int32) (x3 : Int32) : Option (Int32 × Hp) :=
  (f_Box_isSheet sg x1).bind fun y1 =>
    if y1.1 = (0 : Int32) then
      some ((-2 : Int32), y1.2)
    else
      (f_Box_isForm y1.2 x2).bind fun y2 =>
        if y2.1 = (0 : Int32) then
          some ((-2 : Int32), y2.2)
        else
          if x3 ≤ (60 : Int32) then
            if (0 : Int32) ≤ x3 then
              if inb x1 4 = true then
                (f_Sheet_renew y2.2 (rt 32 (x1).toNatClampNeg) x2 x3).bind fun y4 =>
                  some (x3, y4)
              else none
            else
              (f_Box_found y2.2 (5 : Int32)).bind fun y5 =>
                some (y5.1, y5.2)
          else
            some ((-2 : Int32), y2.2)
/-! BoxSpiderModel.sheet, method 99 -/
def f_Mod_sheet_55  : Nat → Hp → Int32 → Int32 → Int32 → Option (Int32 × Hp)
  | 0, _, _, _, _ => none
  | n + 1, sg, x1, x3, x4 =>
    if x3 ≤ x4 then
      some (x3, sg)
    else
      if inb (((60 : Int32) * x1) + x4) 240 = true then
        (some (w2 sg 49 ((((60 : Int32) * x1) + x4)).toNatClampNeg (0 : Int32))).bind fun s8 =>
          f_Mod_sheet_55 n s8 x1 x3 (x4 + (1 : Int32))
      else none
def f_Mod_sheet (sg : Hp) (x1 : Int32) (x2 : Int32) (x3 : Int32) : Option (Int32 × Hp) :=
  (f_Mod_isSheet sg x1).bind fun y1 =>
    if y1.1 = (0 : Int32) then
      some ((-2 : Int32), y1.2)
    else
      (f_Mod_in y1.2 (x2).toInt64 (0 : Int64) (2 : Int64)).bind fun y2 =>
        if y2.1 = (0 : Int32) then
          some ((-2 : Int32), y2.2)
        else
          if x3 ≤ (60 : Int32) then
            if (0 : Int32) ≤ x3 then
              if inb x1 4 = true then
                (some (w2 y2.2 47 (x1).toNatClampNeg x2)).bind fun s4 =>
                  if inb x1 4 = true then
                    (some (w2 s4 48 (x1).toNatClampNeg x3)).bind fun s6 =>
                      f_Mod_sheet_55  LF s6 x1 x3 (0 : Int32)
                  else none
              else none
            else
              (f_Mod_met y2.2 (5 : Int32)).bind fun y9 =>
                some (y9.1, y9.2)
          else
            some ((-2 : Int32), y2.2)
/-! BoxSpider.lose, method 84 -/
def f_Box_lose (sg : Hp) (x1 : Int32) : Option (Int32 × Hp) :=
  (f_Box_isSheet sg x1).bind fun y1 =>
    if y1.1 = (0 : Int32) then
      some ((-2 : Int32), y1.2)
    else
      if inb x1 4 = true then
        (f_Sheet_isLost y1.2 (rt 32 (x1).toNatClampNeg)).bind fun y3 =>
          if y3.1 = (0 : Int32) then
            (some (w2 y3.2 (rt 32 (x1).toNatClampNeg) 1 (-1 : Int32))).bind fun s4 =>
              some ((s4 (rt 32 (x1).toNatClampNeg) 2), s4)
          else
            (f_Box_found y3.2 (1 : Int32)).bind fun y5 =>
              some (y5.1, y5.2)
      else none
/-! BoxSpiderModel.lose, method 103 -/
def f_Mod_lose (sg : Hp) (x1 : Int32) : Option (Int32 × Hp) :=
  (f_Mod_isSheet sg x1).bind fun y1 =>
    if y1.1 = (0 : Int32) then
      some ((-2 : Int32), y1.2)
    else
      if inb x1 4 = true then
        if (0 : Int32) ≤ (y1.2 47 (x1).toNatClampNeg) then
          if inb x1 4 = true then
            (some (w2 y1.2 47 (x1).toNatClampNeg (-1 : Int32))).bind fun s4 =>
              if inb x1 4 = true then
                some ((s4 48 (x1).toNatClampNeg), s4)
              else none
          else none
        else
          (f_Mod_met y1.2 (1 : Int32)).bind fun y6 =>
            some (y6.1, y6.2)
      else none
/-! BoxSpider$Sheet.findingAt, method 86 -/
def f_Sheet_findingAt_31  (sg : Hp)  : Option (Int32 × Hp) :=
  some ((2 : Int32), sg)
def f_Sheet_findingAt (sg : Hp) (a0 : Nat) (x1 : Int32) (x2 : Int32) : Option (Int32 × Hp) :=
  (f_Sheet_isLost sg a0).bind fun y1 =>
    if y1.1 = (0 : Int32) then
      if (y1.2 a0 1) = x1 then
        if x2 < (0 : Int32) then
          f_Sheet_findingAt_31  y1.2 
        else
          if x2 < (y1.2 a0 2) then
            some ((0 : Int32), y1.2)
          else
            f_Sheet_findingAt_31  y1.2 
      else
        some ((3 : Int32), y1.2)
    else
      some ((1 : Int32), y1.2)
/-! BoxSpider$Sheet.put, method 87 -/
def f_Sheet_put (sg : Hp) (a0 : Nat) (x1 : Int32) (x2 : Int32) : Option (Hp) :=
  if (sg a0 1) = (0 : Int32) then
    if inb x1 60 = true then
      (some (w2 sg (rt a0 0) (x1).toNatClampNeg (x2).toInt8.toInt32)).bind fun s6 =>
        some s6
    else none
  else
    if (sg a0 1) = (1 : Int32) then
      if inb x1 60 = true then
        (some (w2 sg (rt a0 0) (x1).toNatClampNeg (x2).toInt16.toInt32)).bind fun s4 =>
          some s4
      else none
    else
      if inb x1 60 = true then
        (some (w2 sg (rt a0 0) (x1).toNatClampNeg x2)).bind fun s2 =>
          some s2
      else none
/-! BoxSpider.lay, method 85 -/
def f_Box_lay (sg : Hp) (x1 : Int32) (x2 : Int32) (x3 : Int32) (x4 : Int32) : Option (Int32 × Hp) :=
  (f_Box_isSheet sg x1).bind fun y1 =>
    if y1.1 = (0 : Int32) then
      some ((-2 : Int32), y1.2)
    else
      (f_Box_isForm y1.2 x2).bind fun y2 =>
        if y2.1 = (0 : Int32) then
          some ((-2 : Int32), y2.2)
        else
          if inb x1 4 = true then
            (f_Sheet_findingAt y2.2 (rt 32 (x1).toNatClampNeg) x2 x3).bind fun y4 =>
              if y4.1 = (0 : Int32) then
                if inb x1 4 = true then
                  (f_Sheet_put y4.2 (rt 32 (x1).toNatClampNeg) x3 x4).bind fun y6 =>
                    some ((1 : Int32), y6)
                else none
              else
                (f_Box_found y4.2 y4.1).bind fun y7 =>
                  some (y7.1, y7.2)
          else none
/-! BoxSpiderModel.lacks, method 105 -/
def f_Mod_lacks (sg : Hp) (x1 : Int32) (x2 : Int32) (x3 : Int32) : Option (Int32 × Hp) :=
  if inb x1 4 = true then
    if (0 : Int32) ≤ (sg 47 (x1).toNatClampNeg) then
      if inb x1 4 = true then
        if (sg 47 (x1).toNatClampNeg) = x2 then
          if inb x1 4 = true then
            (f_Mod_in sg (x3).toInt64 (0 : Int64) (((sg 48 (x1).toNatClampNeg) - (1 : Int32))).toInt64).bind fun y4 =>
              if y4.1 = (0 : Int32) then
                (f_Mod_met y4.2 (2 : Int32)).bind fun y5 =>
                  some (y5.1, y5.2)
              else
                some ((0 : Int32), y4.2)
          else none
        else
          (f_Mod_met sg (3 : Int32)).bind fun y6 =>
            some (y6.1, y6.2)
      else none
    else
      (f_Mod_met sg (1 : Int32)).bind fun y7 =>
        some (y7.1, y7.2)
  else none
/-! BoxSpiderModel.cut, method 106 -/
def f_Mod_cut (sg : Hp) (x0 : Int32) (x1 : Int32) : Option (Int32 × Hp) :=
  if x0 = (0 : Int32) then
    some ((x1).toInt8.toInt32, sg)
  else
    if x0 = (1 : Int32) then
      some ((x1).toInt16.toInt32, sg)
    else
      some (x1, sg)
/-! BoxSpiderModel.lay, method 104 -/
def f_Mod_lay (sg : Hp) (x1 : Int32) (x2 : Int32) (x3 : Int32) (x4 : Int32) : Option (Int32 × Hp) :=
  (f_Mod_isSheet sg x1).bind fun y1 =>
    if y1.1 = (0 : Int32) then
      some ((-2 : Int32), y1.2)
    else
      (f_Mod_in y1.2 (x2).toInt64 (0 : Int64) (2 : Int64)).bind fun y2 =>
        if y2.1 = (0 : Int32) then
          some ((-2 : Int32), y2.2)
        else
          (f_Mod_lacks y2.2 x1 x2 x3).bind fun y3 =>
            if y3.1 = (0 : Int32) then
              (f_Mod_cut y3.2 x2 x4).bind fun y4 =>
                if inb (((60 : Int32) * x1) + x3) 240 = true then
                  (some (w2 y4.2 49 ((((60 : Int32) * x1) + x3)).toNatClampNeg y4.1)).bind fun s6 =>
                    some ((1 : Int32), s6)
                else none
            else
              some (y3.1, y3.2)
/-! BoxSpider.get, method 88 -/
def f_Box_get (sg : Hp) (x1 : Int32) (x2 : Int32) (x3 : Int32) : Option (Int32 × Hp) :=
  (f_Box_isSheet sg x1).bind fun y1 =>
    if y1.1 = (0 : Int32) then
      some ((-2147483648 : Int32), y1.2)
    else
      (f_Box_isForm y1.2 x2).bind fun y2 =>
        if y2.1 = (0 : Int32) then
          some ((-2147483648 : Int32), y2.2)
        else
          if inb x1 4 = true then
            (f_Sheet_findingAt y2.2 (rt 32 (x1).toNatClampNeg) x2 x3).bind fun y4 =>
              if y4.1 = (0 : Int32) then
                if inb x1 4 = true then
                  if inb x3 60 = true then
                    some ((y4.2 (rt (rt 32 (x1).toNatClampNeg) 0) (x3).toNatClampNeg), y4.2)
                  else none
                else none
              else
                (some (w2 y4.2 0 10 y4.1)).bind fun s7 =>
                  some ((-2147483648 : Int32), s7)
          else none
/-! BoxSpiderModel.get, method 107 -/
def f_Mod_get (sg : Hp) (x1 : Int32) (x2 : Int32) (x3 : Int32) : Option (Int32 × Hp) :=
  (f_Mod_isSheet sg x1).bind fun y1 =>
    if y1.1 = (0 : Int32) then
      some ((-2147483648 : Int32), y1.2)
    else
      (f_Mod_in y1.2 (x2).toInt64 (0 : Int64) (2 : Int64)).bind fun y2 =>
        if y2.1 = (0 : Int32) then
          some ((-2147483648 : Int32), y2.2)
        else
          (f_Mod_lacks y2.2 x1 x2 x3).bind fun y3 =>
            if y3.1 = (0 : Int32) then
              if inb (((60 : Int32) * x1) + x3) 240 = true then
                some ((y3.2 49 ((((60 : Int32) * x1) + x3)).toNatClampNeg), y3.2)
              else none
            else
              some ((-2147483648 : Int32), y3.2)
/-! BoxSpider$Sheet.hasRun, method 90 -/
def f_Sheet_hasRun (sg : Hp) (a0 : Nat) (x1 : Int32) (x2 : Int32) : Option (Int32 × Hp) :=
  if x1 < (0 : Int32) then
    some ((0 : Int32), sg)
  else
    if x2 < (0 : Int32) then
      some ((0 : Int32), sg)
    else
      if (sg a0 2) < x1 then
        some ((0 : Int32), sg)
      else
        if ((sg a0 2) - x1) < x2 then
          some ((0 : Int32), sg)
        else
          some ((1 : Int32), sg)
/-! BoxSpider.copy, method 89 -/
def f_Box_copy_49  (sg : Hp)  : Option (Int32 × Hp) :=
  (f_Box_found sg (1 : Int32)).bind fun y6 =>
    some (y6.1, y6.2)
def f_Box_copy_97  (sg : Hp)  : Option (Int32 × Hp) :=
  (f_Box_found sg (2 : Int32)).bind fun y9 =>
    some (y9.1, y9.2)
def f_Box_copy (sg : Hp) (x1 : Int32) (x2 : Int32) (x3 : Int32) (x4 : Int32) (x5 : Int32) : Option (Int32 × Hp) :=
  (f_Box_isSheet sg x1).bind fun y1 =>
    if y1.1 = (0 : Int32) then
      some ((-2 : Int32), y1.2)
    else
      (f_Box_isSheet y1.2 x3).bind fun y2 =>
        if y2.1 = (0 : Int32) then
          some ((-2 : Int32), y2.2)
        else
          if inb x1 4 = true then
            if inb x3 4 = true then
              (f_Sheet_isLost y2.2 (rt 32 (x1).toNatClampNeg)).bind fun y5 =>
                if y5.1 = (0 : Int32) then
                  (f_Sheet_isLost y5.2 (rt 32 (x3).toNatClampNeg)).bind fun y7 =>
                    if y7.1 = (0 : Int32) then
                      if (y7.2 (rt 32 (x1).toNatClampNeg) 1) = (y7.2 (rt 32 (x3).toNatClampNeg) 1) then
                        (f_Sheet_hasRun y7.2 (rt 32 (x1).toNatClampNeg) x2 x5).bind fun y8 =>
                          if y8.1 = (0 : Int32) then
                            f_Box_copy_97  y8.2 
                          else
                            (f_Sheet_hasRun y8.2 (rt 32 (x3).toNatClampNeg) x4 x5).bind fun y10 =>
                              if y10.1 = (0 : Int32) then
                                f_Box_copy_97  y10.2 
                              else
                                if cpok x2 x4 x5 60 60 = true then
                                  (some (cp2 y10.2 (rt (rt 32 (x1).toNatClampNeg) 0) (rt (rt 32 (x3).toNatClampNeg) 0) x2 x4 x5)).bind fun s12 =>
                                    some ((1 : Int32), s12)
                                else none
                      else
                        (f_Box_found y7.2 (4 : Int32)).bind fun y13 =>
                          some (y13.1, y13.2)
                    else
                      f_Box_copy_49  y7.2 
                else
                  f_Box_copy_49  y5.2 
            else none
          else none
/-! BoxSpiderModel.copy, method 108 -/
def f_Mod_copy_35  (sg : Hp)  : Option (Int32 × Hp) :=
  (f_Mod_met sg (1 : Int32)).bind fun y4 =>
    some (y4.1, y4.2)
def f_Mod_copy_111  (sg : Hp)  : Option (Int32 × Hp) :=
  (f_Mod_met sg (2 : Int32)).bind fun y8 =>
    some (y8.1, y8.2)
def f_Mod_copy_157  : Nat → Hp → Int32 → Int32 → Int32 → Int32 → Option (Int32 × Hp)
  | 0, _, _, _, _, _ => none
  | n + 1, sg, x3, x4, x5, x6 =>
    if x5 ≤ x6 then
      some ((1 : Int32), sg)
    else
      if inb x6 60 = true then
        if inb ((((60 : Int32) * x3) + x4) + x6) 240 = true then
          (some (w2 sg 49 (((((60 : Int32) * x3) + x4) + x6)).toNatClampNeg (sg 50 (x6).toNatClampNeg))).bind fun s13 =>
            f_Mod_copy_157 n s13 x3 x4 x5 (x6 + (1 : Int32))
        else none
      else none
def f_Mod_copy_120  : Nat → Hp → Int32 → Int32 → Int32 → Int32 → Int32 → Int32 → Option (Int32 × Hp)
  | 0, _, _, _, _, _, _, _ => none
  | n + 1, sg, x1, x2, x3, x4, x5, x6 =>
    if x5 ≤ x6 then
      f_Mod_copy_157  LF sg x3 x4 x5 (0 : Int32)
    else
      if inb ((((60 : Int32) * x1) + x2) + x6) 240 = true then
        if inb x6 60 = true then
          (some (w2 sg 50 (x6).toNatClampNeg (sg 49 (((((60 : Int32) * x1) + x2) + x6)).toNatClampNeg))).bind fun s16 =>
            f_Mod_copy_120 n s16 x1 x2 x3 x4 x5 (x6 + (1 : Int32))
        else none
      else none
def f_Mod_copy (sg : Hp) (x1 : Int32) (x2 : Int32) (x3 : Int32) (x4 : Int32) (x5 : Int32) : Option (Int32 × Hp) :=
  (f_Mod_isSheet sg x1).bind fun y1 =>
    if y1.1 = (0 : Int32) then
      some ((-2 : Int32), y1.2)
    else
      (f_Mod_isSheet y1.2 x3).bind fun y2 =>
        if y2.1 = (0 : Int32) then
          some ((-2 : Int32), y2.2)
        else
          if inb x1 4 = true then
            if (y2.2 47 (x1).toNatClampNeg) < (0 : Int32) then
              f_Mod_copy_35  y2.2 
            else
              if inb x3 4 = true then
                if (0 : Int32) ≤ (y2.2 47 (x3).toNatClampNeg) then
                  if inb x1 4 = true then
                    if inb x3 4 = true then
                      if (y2.2 47 (x1).toNatClampNeg) = (y2.2 47 (x3).toNatClampNeg) then
                        if x2 < (0 : Int32) then
                          f_Mod_copy_111  y2.2 
                        else
                          if x4 < (0 : Int32) then
                            f_Mod_copy_111  y2.2 
                          else
                            if x5 < (0 : Int32) then
                              f_Mod_copy_111  y2.2 
                            else
                              if inb x1 4 = true then
                                if (0 : Int32) < (lg_cmp ((x2).toInt64 + (x5).toInt64) ((y2.2 48 (x1).toNatClampNeg)).toInt64) then
                                  f_Mod_copy_111  y2.2 
                                else
                                  if inb x3 4 = true then
                                    if (lg_cmp ((x4).toInt64 + (x5).toInt64) ((y2.2 48 (x3).toNatClampNeg)).toInt64) ≤ (0 : Int32) then
                                      f_Mod_copy_120  LF y2.2 x1 x2 x3 x4 x5 (0 : Int32)
                                    else
                                      f_Mod_copy_111  y2.2 
                                  else none
                              else none
                      else
                        (f_Mod_met y2.2 (4 : Int32)).bind fun y17 =>
                          some (y17.1, y17.2)
                    else none
                  else none
                else
                  f_Mod_copy_35  y2.2 
              else none
          else none
/-! BoxSpider.write, method 91 -/
def f_Box_write_51  : Nat → Hp → Int32 → Nat → Int32 → Int32 → Option (Int32 × Hp)
  | 0, _, _, _, _, _ => none
  | n + 1, sg, x1, a3, x4, x5 =>
    if x4 ≤ x5 then
      some (x4, sg)
    else
      (f_Table_look sg x1 x5).bind fun y5 =>
        if inb y5.1 64 = true then
          (f_Sheet_put y5.2 a3 x5 (y5.2 25 (y5.1).toNatClampNeg)).bind fun y7 =>
            f_Box_write_51 n y7 x1 a3 x4 (x5 + (1 : Int32))
        else none
def f_Box_write (sg : Hp) (x1 : Int32) (x2 : Int32) : Option (Int32 × Hp) :=
  (f_Box_isPlace sg x1).bind fun y1 =>
    if y1.1 = (0 : Int32) then
      some ((-2 : Int32), y1.2)
    else
      (f_Box_isSheet y1.2 x2).bind fun y2 =>
        if y2.1 = (0 : Int32) then
          some ((-2 : Int32), y2.2)
        else
          if inb x2 4 = true then
            (f_Sheet_isLost y2.2 (rt 32 (x2).toNatClampNeg)).bind fun y4 =>
              if y4.1 = (0 : Int32) then
                f_Box_write_51  LF y4.2 x1 (rt 32 (x2).toNatClampNeg) (if (8 : Int32) < (y4.2 (rt 32 (x2).toNatClampNeg) 2) then (8 : Int32) else (y4.2 (rt 32 (x2).toNatClampNeg) 2)) (0 : Int32)
              else
                (f_Box_found y4.2 (1 : Int32)).bind fun y8 =>
                  some (y8.1, y8.2)
          else none
/-! BoxSpiderModel.write, method 178 -/
def f_Mod_write_47  : Nat → Hp → Int32 → Int32 → Int32 → Int32 → Option (Int32 × Hp)
  | 0, _, _, _, _, _ => none
  | n + 1, sg, x1, x2, x3, x4 =>
    if x3 ≤ x4 then
      some (x3, sg)
    else
      if inb x2 4 = true then
        (f_Mod_shortestOf sg x1 x4).bind fun y7 =>
          (f_Mod_cut y7.2 (sg 47 (x2).toNatClampNeg) y7.1).bind fun y8 =>
            if inb (((60 : Int32) * x2) + x4) 240 = true then
              (some (w2 y8.2 49 ((((60 : Int32) * x2) + x4)).toNatClampNeg y8.1)).bind fun s10 =>
                f_Mod_write_47 n s10 x1 x2 x3 (x4 + (1 : Int32))
            else none
      else none
def f_Mod_write (sg : Hp) (x1 : Int32) (x2 : Int32) : Option (Int32 × Hp) :=
  (f_Mod_isPlace sg x1).bind fun y1 =>
    if y1.1 = (0 : Int32) then
      some ((-2 : Int32), y1.2)
    else
      (f_Mod_isSheet y1.2 x2).bind fun y2 =>
        if y2.1 = (0 : Int32) then
          some ((-2 : Int32), y2.2)
        else
          if inb x2 4 = true then
            if (0 : Int32) ≤ (y2.2 47 (x2).toNatClampNeg) then
              if inb x2 4 = true then
                (f_Mod_lesser y2.2 (y2.2 48 (x2).toNatClampNeg) (8 : Int32)).bind fun y5 =>
                  f_Mod_write_47  LF y5.2 x1 x2 y5.1 (0 : Int32)
              else none
            else
              (f_Mod_met y2.2 (1 : Int32)).bind fun y11 =>
                some (y11.1, y11.2)
          else none
/-! java/lang/Integer.bitCount, method 94 -/
def f_Int_bitCount (sg : Hp) (x0 : Int32) : Option (Int32 × Hp) :=
  some (((((((((x0 - ((x0.toUInt32 >>> ((1 : Int32).toUInt32 &&& Int32.toUInt32 31)).toInt32 &&& (1431655765 : Int32))) &&& (858993459 : Int32)) + (((x0 - ((x0.toUInt32 >>> ((1 : Int32).toUInt32 &&& Int32.toUInt32 31)).toInt32 &&& (1431655765 : Int32))).toUInt32 >>> ((2 : Int32).toUInt32 &&& Int32.toUInt32 31)).toInt32 &&& (858993459 : Int32))) + ((((x0 - ((x0.toUInt32 >>> ((1 : Int32).toUInt32 &&& Int32.toUInt32 31)).toInt32 &&& (1431655765 : Int32))) &&& (858993459 : Int32)) + (((x0 - ((x0.toUInt32 >>> ((1 : Int32).toUInt32 &&& Int32.toUInt32 31)).toInt32 &&& (1431655765 : Int32))).toUInt32 >>> ((2 : Int32).toUInt32 &&& Int32.toUInt32 31)).toInt32 &&& (858993459 : Int32))).toUInt32 >>> ((4 : Int32).toUInt32 &&& Int32.toUInt32 31)).toInt32) &&& (252645135 : Int32)) + ((((((x0 - ((x0.toUInt32 >>> ((1 : Int32).toUInt32 &&& Int32.toUInt32 31)).toInt32 &&& (1431655765 : Int32))) &&& (858993459 : Int32)) + (((x0 - ((x0.toUInt32 >>> ((1 : Int32).toUInt32 &&& Int32.toUInt32 31)).toInt32 &&& (1431655765 : Int32))).toUInt32 >>> ((2 : Int32).toUInt32 &&& Int32.toUInt32 31)).toInt32 &&& (858993459 : Int32))) + ((((x0 - ((x0.toUInt32 >>> ((1 : Int32).toUInt32 &&& Int32.toUInt32 31)).toInt32 &&& (1431655765 : Int32))) &&& (858993459 : Int32)) + (((x0 - ((x0.toUInt32 >>> ((1 : Int32).toUInt32 &&& Int32.toUInt32 31)).toInt32 &&& (1431655765 : Int32))).toUInt32 >>> ((2 : Int32).toUInt32 &&& Int32.toUInt32 31)).toInt32 &&& (858993459 : Int32))).toUInt32 >>> ((4 : Int32).toUInt32 &&& Int32.toUInt32 31)).toInt32) &&& (252645135 : Int32)).toUInt32 >>> ((8 : Int32).toUInt32 &&& Int32.toUInt32 31)).toInt32) + (((((((x0 - ((x0.toUInt32 >>> ((1 : Int32).toUInt32 &&& Int32.toUInt32 31)).toInt32 &&& (1431655765 : Int32))) &&& (858993459 : Int32)) + (((x0 - ((x0.toUInt32 >>> ((1 : Int32).toUInt32 &&& Int32.toUInt32 31)).toInt32 &&& (1431655765 : Int32))).toUInt32 >>> ((2 : Int32).toUInt32 &&& Int32.toUInt32 31)).toInt32 &&& (858993459 : Int32))) + ((((x0 - ((x0.toUInt32 >>> ((1 : Int32).toUInt32 &&& Int32.toUInt32 31)).toInt32 &&& (1431655765 : Int32))) &&& (858993459 : Int32)) + (((x0 - ((x0.toUInt32 >>> ((1 : Int32).toUInt32 &&& Int32.toUInt32 31)).toInt32 &&& (1431655765 : Int32))).toUInt32 >>> ((2 : Int32).toUInt32 &&& Int32.toUInt32 31)).toInt32 &&& (858993459 : Int32))).toUInt32 >>> ((4 : Int32).toUInt32 &&& Int32.toUInt32 31)).toInt32) &&& (252645135 : Int32)) + ((((((x0 - ((x0.toUInt32 >>> ((1 : Int32).toUInt32 &&& Int32.toUInt32 31)).toInt32 &&& (1431655765 : Int32))) &&& (858993459 : Int32)) + (((x0 - ((x0.toUInt32 >>> ((1 : Int32).toUInt32 &&& Int32.toUInt32 31)).toInt32 &&& (1431655765 : Int32))).toUInt32 >>> ((2 : Int32).toUInt32 &&& Int32.toUInt32 31)).toInt32 &&& (858993459 : Int32))) + ((((x0 - ((x0.toUInt32 >>> ((1 : Int32).toUInt32 &&& Int32.toUInt32 31)).toInt32 &&& (1431655765 : Int32))) &&& (858993459 : Int32)) + (((x0 - ((x0.toUInt32 >>> ((1 : Int32).toUInt32 &&& Int32.toUInt32 31)).toInt32 &&& (1431655765 : Int32))).toUInt32 >>> ((2 : Int32).toUInt32 &&& Int32.toUInt32 31)).toInt32 &&& (858993459 : Int32))).toUInt32 >>> ((4 : Int32).toUInt32 &&& Int32.toUInt32 31)).toInt32) &&& (252645135 : Int32)).toUInt32 >>> ((8 : Int32).toUInt32 &&& Int32.toUInt32 31)).toInt32).toUInt32 >>> ((16 : Int32).toUInt32 &&& Int32.toUInt32 31)).toInt32) &&& (63 : Int32)), sg)
/-! BoxSpider$Room.barredEdges, method 93 -/
def f_Room_barredEdges_4  : Nat → Hp → Int32 → Int32 → Option (Int32 × Hp)
  | 0, _, _, _ => none
  | n + 1, sg, x1, x2 =>
    if (6 : Int32) ≤ x2 then
      some ((x1 / (2 : Int32)), sg)
    else
      if inb x2 6 = true then
        (f_Int_bitCount sg (sg 6 (x2).toNatClampNeg)).bind fun y2 =>
          f_Room_barredEdges_4 n y2.2 (x1 + y2.1) (x2 + (1 : Int32))
      else none
def f_Room_barredEdges (sg : Hp)  : Option (Int32 × Hp) :=
  f_Room_barredEdges_4  LF sg (0 : Int32) (0 : Int32)
/-! BoxSpider$Room.hasLikeBefore, method 96 -/
def f_Room_hasLikeBefore_54 (k2 : Hp → Int32 → Int32 → Option (Int32 × Hp)) (sg : Hp) (x1 : Int32) (x2 : Int32) : Option (Int32 × Hp) :=
  k2 sg x1 (x2 + (1 : Int32))
def f_Room_hasLikeBefore_2  : Nat → Hp → Int32 → Int32 → Option (Int32 × Hp)
  | 0, _, _, _ => none
  | n + 1, sg, x1, x2 =>
    if x1 ≤ x2 then
      some ((0 : Int32), sg)
    else
      if inb x2 8 = true then
        if inb x1 8 = true then
          if (sg 3 (x2).toNatClampNeg) = (sg 3 (x1).toNatClampNeg) then
            if inb x2 8 = true then
              if inb x1 8 = true then
                if (sg 4 (x2).toNatClampNeg) = (sg 4 (x1).toNatClampNeg) then
                  if inb x2 8 = true then
                    if inb x1 8 = true then
                      if (sg 5 (x2).toNatClampNeg) = (sg 5 (x1).toNatClampNeg) then
                        some ((1 : Int32), sg)
                      else
                        f_Room_hasLikeBefore_54 (f_Room_hasLikeBefore_2 n) sg x1 x2
                    else none
                  else none
                else
                  f_Room_hasLikeBefore_54 (f_Room_hasLikeBefore_2 n) sg x1 x2
              else none
            else none
          else
            f_Room_hasLikeBefore_54 (f_Room_hasLikeBefore_2 n) sg x1 x2
        else none
      else none
def f_Room_hasLikeBefore (sg : Hp) (x1 : Int32) : Option (Int32 × Hp) :=
  f_Room_hasLikeBefore_2  LF sg x1 (0 : Int32)
/-! BoxSpider$Room.unlikePlaces, method 95 -/
def f_Room_unlikePlaces_21 (k4 : Hp → Int32 → Int32 → Option (Int32 × Hp)) (sg : Hp) (x1 : Int32) (x2 : Int32) : Option (Int32 × Hp) :=
  k4 sg x1 (x2 + (1 : Int32))
def f_Room_unlikePlaces_4  : Nat → Hp → Int32 → Int32 → Option (Int32 × Hp)
  | 0, _, _, _ => none
  | n + 1, sg, x1, x2 =>
    if (8 : Int32) ≤ x2 then
      some (x1, sg)
    else
      (f_Room_hasLikeBefore sg x2).bind fun y1 =>
        if y1.1 = (0 : Int32) then
          f_Room_unlikePlaces_21 (f_Room_unlikePlaces_4 n) y1.2 (x1 + (1 : Int32)) x2
        else
          f_Room_unlikePlaces_21 (f_Room_unlikePlaces_4 n) y1.2 x1 x2
def f_Room_unlikePlaces (sg : Hp)  : Option (Int32 × Hp) :=
  f_Room_unlikePlaces_4  LF sg (0 : Int32) (0 : Int32)
/-! BoxSpider.count, method 92 -/
def f_Box_count (sg : Hp) (x1 : Int32) : Option (Int32 × Hp) :=
  if x1 = (0 : Int32) then
    (f_Rolls_valid sg ).bind fun y2 =>
      some (y2.1, y2.2)
  else
    if x1 = (1 : Int32) then
      some ((sg 9 1), sg)
    else
      if x1 = (2 : Int32) then
        (f_Box_axisOf sg (x1 - (2 : Int32))).bind fun y3 =>
          if inb y3.1 3 = true then
            some ((y3.2 2 (y3.1).toNatClampNeg), y3.2)
          else none
      else
        if x1 = (3 : Int32) then
          (f_Box_axisOf sg (x1 - (2 : Int32))).bind fun y5 =>
            if inb y5.1 3 = true then
              some ((y5.2 2 (y5.1).toNatClampNeg), y5.2)
            else none
        else
          if x1 = (4 : Int32) then
            (f_Box_axisOf sg (x1 - (2 : Int32))).bind fun y7 =>
              if inb y7.1 3 = true then
                some ((y7.2 2 (y7.1).toNatClampNeg), y7.2)
              else none
          else
            if x1 = (5 : Int32) then
              (f_Room_barredEdges sg ).bind fun y9 =>
                some (y9.1, y9.2)
            else
              if x1 = (6 : Int32) then
                (f_Room_unlikePlaces sg ).bind fun y10 =>
                  some (y10.1, y10.2)
              else
                if x1 = (7 : Int32) then
                  (f_Rolls_valid sg ).bind fun y11 =>
                    (f_Box_standBehind y11.2 y11.1).bind fun y12 =>
                      some ((y12 33 0), y12)
                else
                  if x1 = (8 : Int32) then
                    some ((sg 0 10), sg)
                  else
                    some ((-2 : Int32), sg)
/-! BoxSpiderModel.barred, method 180 -/
def f_Mod_barred_17 (k4 : Hp → Int32 → Int32 → Option (Int32 × Hp)) : Nat → Hp → Int32 → Int32 → Int32 → Option (Int32 × Hp)
  | 0, _, _, _, _ => none
  | n + 1, sg, x1, x2, x3 =>
    if x3 = (0 : Int32) then
      k4 sg x1 (x2 + (1 : Int32))
    else
      f_Mod_barred_17 k4 n sg (x1 + (1 : Int32)) x2 (x3 &&& (x3 - (1 : Int32)))
def f_Mod_barred_4  : Nat → Hp → Int32 → Int32 → Option (Int32 × Hp)
  | 0, _, _, _ => none
  | n + 1, sg, x1, x2 =>
    if (6 : Int32) ≤ x2 then
      some ((x1 / (2 : Int32)), sg)
    else
      if inb x2 6 = true then
        f_Mod_barred_17 (f_Mod_barred_4 n) LF sg x1 x2 (sg 53 (x2).toNatClampNeg)
      else none
def f_Mod_barred (sg : Hp)  : Option (Int32 × Hp) :=
  f_Mod_barred_4  LF sg (0 : Int32) (0 : Int32)
/-! BoxSpiderModel.unlike, method 181 -/
def f_Mod_unlike_115 (k4 : Hp → Int32 → Int32 → Option (Int32 × Hp)) (sg : Hp) (x2 : Int32) (xs0 : Int32) (xs1 : Int32) : Option (Int32 × Hp) :=
  k4 sg (xs0 + xs1) (x2 + (1 : Int32))
def f_Mod_unlike_98 (k4 : Hp → Int32 → Int32 → Option (Int32 × Hp)) (k15 : Hp → Int32 → Int32 → Int32 → Int32 → Option (Int32 × Hp)) (sg : Hp) (x1 : Int32) (x2 : Int32) (x4 : Int32) (xs0 : Int32) : Option (Int32 × Hp) :=
  k15 sg x1 x2 xs0 (x4 + (1 : Int32))
def f_Mod_unlike_93 (k4 : Hp → Int32 → Int32 → Option (Int32 × Hp)) (k15 : Hp → Int32 → Int32 → Int32 → Int32 → Option (Int32 × Hp)) (sg : Hp) (x1 : Int32) (x2 : Int32) (x4 : Int32) : Option (Int32 × Hp) :=
  f_Mod_unlike_98 k4 k15 sg x1 x2 x4 (1 : Int32)
def f_Mod_unlike_97 (k4 : Hp → Int32 → Int32 → Option (Int32 × Hp)) (k15 : Hp → Int32 → Int32 → Int32 → Int32 → Option (Int32 × Hp)) (sg : Hp) (x1 : Int32) (x2 : Int32) (x4 : Int32) : Option (Int32 × Hp) :=
  f_Mod_unlike_98 k4 k15 sg x1 x2 x4 (0 : Int32)
def f_Mod_unlike_15 (k4 : Hp → Int32 → Int32 → Option (Int32 × Hp)) : Nat → Hp → Int32 → Int32 → Int32 → Int32 → Option (Int32 × Hp)
  | 0, _, _, _, _, _ => none
  | n + 1, sg, x1, x2, x3, x4 =>
    if x2 ≤ x4 then
      if x3 = (0 : Int32) then
        f_Mod_unlike_115 k4 sg x2 x1 (1 : Int32)
      else
        f_Mod_unlike_115 k4 sg x2 x1 (0 : Int32)
    else
      if x3 = (0 : Int32) then
        if inb ((3 : Int32) * x2) 24 = true then
          if inb ((3 : Int32) * x4) 24 = true then
            if (sg 52 (((3 : Int32) * x2)).toNatClampNeg) = (sg 52 (((3 : Int32) * x4)).toNatClampNeg) then
              if inb (((3 : Int32) * x2) + (1 : Int32)) 24 = true then
                if inb (((3 : Int32) * x4) + (1 : Int32)) 24 = true then
                  if (sg 52 ((((3 : Int32) * x2) + (1 : Int32))).toNatClampNeg) = (sg 52 ((((3 : Int32) * x4) + (1 : Int32))).toNatClampNeg) then
                    if inb (((3 : Int32) * x2) + (2 : Int32)) 24 = true then
                      if inb (((3 : Int32) * x4) + (2 : Int32)) 24 = true then
                        if (sg 52 ((((3 : Int32) * x2) + (2 : Int32))).toNatClampNeg) = (sg 52 ((((3 : Int32) * x4) + (2 : Int32))).toNatClampNeg) then
                          f_Mod_unlike_93 k4 (f_Mod_unlike_15 k4 n) sg x1 x2 x4
                        else
                          f_Mod_unlike_97 k4 (f_Mod_unlike_15 k4 n) sg x1 x2 x4
                      else none
                    else none
                  else
                    f_Mod_unlike_97 k4 (f_Mod_unlike_15 k4 n) sg x1 x2 x4
                else none
              else none
            else
              f_Mod_unlike_97 k4 (f_Mod_unlike_15 k4 n) sg x1 x2 x4
          else none
        else none
      else
        f_Mod_unlike_93 k4 (f_Mod_unlike_15 k4 n) sg x1 x2 x4
def f_Mod_unlike_4  : Nat → Hp → Int32 → Int32 → Option (Int32 × Hp)
  | 0, _, _, _ => none
  | n + 1, sg, x1, x2 =>
    if (8 : Int32) ≤ x2 then
      some (x1, sg)
    else
      f_Mod_unlike_15 (f_Mod_unlike_4 n) LF sg x1 x2 (0 : Int32) (0 : Int32)
def f_Mod_unlike (sg : Hp)  : Option (Int32 × Hp) :=
  f_Mod_unlike_4  LF sg (0 : Int32) (0 : Int32)
/-! BoxSpiderModel.count, method 179 -/
def f_Mod_count (sg : Hp) (x1 : Int32) : Option (Int32 × Hp) :=
  if x1 = (0 : Int32) then
    (f_Mod_rolls sg ).bind fun y2 =>
      some (y2.1, y2.2)
  else
    if x1 = (1 : Int32) then
      some ((sg 46 9), sg)
    else
      if x1 = (2 : Int32) then
        if inb (x1 - (2 : Int32)) 3 = true then
          some ((sg 51 ((x1 - (2 : Int32))).toNatClampNeg), sg)
        else none
      else
        if x1 = (3 : Int32) then
          if inb (x1 - (2 : Int32)) 3 = true then
            some ((sg 51 ((x1 - (2 : Int32))).toNatClampNeg), sg)
          else none
        else
          if x1 = (4 : Int32) then
            if inb (x1 - (2 : Int32)) 3 = true then
              some ((sg 51 ((x1 - (2 : Int32))).toNatClampNeg), sg)
            else none
          else
            if x1 = (5 : Int32) then
              (f_Mod_barred sg ).bind fun y6 =>
                some (y6.1, y6.2)
            else
              if x1 = (6 : Int32) then
                (f_Mod_unlike sg ).bind fun y7 =>
                  some (y7.1, y7.2)
              else
                if x1 = (7 : Int32) then
                  (f_Mod_rolls sg ).bind fun y8 =>
                    (f_Mod_laidOf y8.2 y8.1 (0 : Int32)).bind fun y9 =>
                      some (y9.1, y9.2)
                else
                  if x1 = (8 : Int32) then
                    some ((sg 46 4), sg)
                  else
                    some ((-2 : Int32), sg)
/-! BoxSpider.digest, method 97 -/
def f_Box_digest_212  : Nat → Hp → Int64 → Int32 → Int32 → Option (Int64 × Hp)
  | 0, _, _, _, _ => none
  | n + 1, sg, l1, x3, x4 =>
    if (4 : Int32) < x4 then
      (f_Box_sit sg ).bind fun y3 =>
        (f_Box_nearer y3.2 (0 : Int32) (1 : Int32)).bind fun y4 =>
          (f_Box_wires y4.2 (255 : Int32) (-1 : Int32)).bind fun y5 =>
            (f_Box_wires y5.2 (255 : Int32) (-2 : Int32)).bind fun y6 =>
              (f_Box_wires y6.2 (255 : Int32) (0 : Int32)).bind fun y7 =>
                (f_Box_told y7.2 (0 : Int32) (0 : Int32) (1 : Int32) x3).bind fun y8 =>
                  (f_Box_snail y8.2 (2 : Int32) (1 : Int32) (5 : Int32) (0 : Int32)).bind fun y9 =>
                    (f_Box_snail y9.2 (3 : Int32) (-2 : Int32) (8 : Int32) (1 : Int32)).bind fun y10 =>
                      (f_Box_thread y10.2 (0 : Int32) (1 : Int32) (100 : Int32) (0 : Int32)).bind fun y11 =>
                        (f_Box_flies y11.2 (0 : Int32) (7 : Int32) (20 : Int32) (300 : Int32)).bind fun y12 =>
                          some ((((31 : Int64) * (((31 : Int64) * (((31 : Int64) * (((31 : Int64) * (((31 : Int64) * (((31 : Int64) * (((31 : Int64) * (((31 : Int64) * (((31 : Int64) * (((31 : Int64) * l1) + (y3.1).toInt64)) + (y4.1).toInt64)) + (y5.1).toInt64)) + (y6.1).toInt64)) + (y7.1).toInt64)) + (y8.1).toInt64)) + (y9.1).toInt64)) + (y10.1).toInt64)) + (y11.1).toInt64)) + (y12.1).toInt64), y12.2)
    else
      (f_Box_laidOut sg x3 x4).bind fun y13 =>
        f_Box_digest_212 n y13.2 (((31 : Int64) * l1) + (y13.1).toInt64) x3 (x4 + (1 : Int32))
def f_Box_digest_122 (k45 : Hp → Int64 → Int32 → Option (Int64 × Hp)) : Nat → Hp → Int64 → Int32 → Int32 → Int32 → Option (Int64 × Hp)
  | 0, _, _, _, _, _ => none
  | n + 1, sg, l1, x3, x4, x5 =>
    if (2 : Int32) < x5 then
      (f_Box_farthest sg x3).bind fun y16 =>
        (f_Box_within y16.2 x3 (200 : Int32)).bind fun y17 =>
          (f_Box_lies y17.2 x3 (0 : Int32) (0 : Int32)).bind fun y18 =>
            k45 y18.2 (((31 : Int64) * (((31 : Int64) * (((31 : Int64) * l1) + (y16.1).toInt64)) + (y17.1).toInt64)) + (y18.1).toInt64) (x3 + (1 : Int32))
    else
      (f_Box_face sg x3 x4 x5).bind fun y19 =>
        f_Box_digest_122 k45 n y19.2 (((31 : Int64) * l1) + (y19.1).toInt64) x3 x4 (x5 + (1 : Int32))
def f_Box_digest_62 (k45 : Hp → Int64 → Int32 → Option (Int64 × Hp)) : Nat → Hp → Int64 → Int32 → Int32 → Int32 → Option (Int64 × Hp)
  | 0, _, _, _, _, _ => none
  | n + 1, sg, l1, x3, x4, x5 =>
    if (3 : Int32) < x5 then
      (f_Box_shortest sg x3 x4).bind fun y14 =>
        (f_Box_ways y14.2 x3 x4).bind fun y15 =>
          f_Box_digest_122 k45 LF y15.2 (((31 : Int64) * (((31 : Int64) * l1) + (y14.1).toInt64)) + (y15.1).toInt64) x3 x4 (0 : Int32)
    else
      (f_Box_at sg x3 x5).bind fun y20 =>
        f_Box_digest_62 k45 n y20.2 (((31 : Int64) * l1) + (y20.1).toInt64) x3 x4 (x5 + (1 : Int32))
def f_Box_digest_45  : Nat → Hp → Int64 → Int32 → Option (Int64 × Hp)
  | 0, _, _, _ => none
  | n + 1, sg, l1, x3 =>
    if (8 : Int32) ≤ x3 then
      (f_Rolls_valid sg ).bind fun y2 =>
        f_Box_digest_212  LF y2.2 l1 y2.1 (0 : Int32)
    else
      f_Box_digest_62 (f_Box_digest_45 n) LF sg l1 x3 ((x3 + (1 : Int32)) - (x3 + (1 : Int32)) / (8 : Int32) * (8 : Int32)) (0 : Int32)
def f_Box_digest_6  : Nat → Hp → Int64 → Int32 → Option (Int64 × Hp)
  | 0, _, _, _ => none
  | n + 1, sg, l1, x3 =>
    if (7 : Int32) < x3 then
      (f_Box_fault sg ).bind fun y1 =>
        f_Box_digest_45  LF y1.2 (((31 : Int64) * l1) + (y1.1).toInt64) (0 : Int32)
    else
      (f_Box_count sg x3).bind fun y21 =>
        f_Box_digest_6 n y21.2 (((31 : Int64) * l1) + (y21.1).toInt64) (x3 + (1 : Int32))
def f_Box_digest (sg : Hp)  : Option (Int64 × Hp) :=
  f_Box_digest_6  LF sg (17 : Int64) (0 : Int32)
/-! BoxSpiderModel.digest, method 182 -/
def f_Mod_digest_209  : Nat → Hp → Int64 → Int32 → Int32 → Option (Int64 × Hp)
  | 0, _, _, _, _ => none
  | n + 1, sg, l1, x3, x4 =>
    if (5 : Int32) ≤ x4 then
      (f_Mod_sitNow sg ).bind fun y3 =>
        (f_Mod_nearerOf y3.2 (0 : Int32) (1 : Int32)).bind fun y4 =>
          (f_Mod_wiresOf y4.2 (255 : Int32) (-1 : Int32)).bind fun y5 =>
            (f_Mod_wiresOf y5.2 (255 : Int32) (-2 : Int32)).bind fun y6 =>
              (f_Mod_wiresOf y6.2 (255 : Int32) (0 : Int32)).bind fun y7 =>
                (f_Mod_toldOf y7.2 (0 : Int32) (0 : Int32) (1 : Int32) x3).bind fun y8 =>
                  (f_Mod_snailOf y8.2 (2 : Int32) (1 : Int32) (5 : Int32) (0 : Int32)).bind fun y9 =>
                    (f_Mod_snailOf y9.2 (3 : Int32) (-2 : Int32) (8 : Int32) (1 : Int32)).bind fun y10 =>
                      (f_Mod_threadOf y10.2 (0 : Int32) (1 : Int32) (100 : Int32) (0 : Int32)).bind fun y11 =>
                        (f_Mod_fliesOf y11.2 (0 : Int32) (7 : Int32) (20 : Int32) (300 : Int32)).bind fun y12 =>
                          some ((((31 : Int64) * (((31 : Int64) * (((31 : Int64) * (((31 : Int64) * (((31 : Int64) * (((31 : Int64) * (((31 : Int64) * (((31 : Int64) * (((31 : Int64) * (((31 : Int64) * l1) + (y3.1).toInt64)) + (y4.1).toInt64)) + (y5.1).toInt64)) + (y6.1).toInt64)) + (y7.1).toInt64)) + (y8.1).toInt64)) + (y9.1).toInt64)) + (y10.1).toInt64)) + (y11.1).toInt64)) + (y12.1).toInt64), y12.2)
    else
      (f_Mod_laidOf sg x3 x4).bind fun y13 =>
        f_Mod_digest_209 n y13.2 (((31 : Int64) * l1) + (y13.1).toInt64) x3 (x4 + (1 : Int32))
def f_Mod_digest_122 (k45 : Hp → Int64 → Int32 → Option (Int64 × Hp)) : Nat → Hp → Int64 → Int32 → Int32 → Int32 → Option (Int64 × Hp)
  | 0, _, _, _, _, _ => none
  | n + 1, sg, l1, x3, x4, x5 =>
    if (3 : Int32) ≤ x5 then
      (f_Mod_farthestOf sg x3).bind fun y16 =>
        (f_Mod_withinOf y16.2 x3 (200 : Int32)).bind fun y17 =>
          (f_Mod_liesOf y17.2 x3 (0 : Int32) (0 : Int32)).bind fun y18 =>
            k45 y18.2 (((31 : Int64) * (((31 : Int64) * (((31 : Int64) * l1) + (y16.1).toInt64)) + (y17.1).toInt64)) + (y18.1).toInt64) (x3 + (1 : Int32))
    else
      (f_Mod_faceOf sg x3 x4 x5).bind fun y19 =>
        f_Mod_digest_122 k45 n y19.2 (((31 : Int64) * l1) + (y19.1).toInt64) x3 x4 (x5 + (1 : Int32))
def f_Mod_digest_62 (k45 : Hp → Int64 → Int32 → Option (Int64 × Hp)) : Nat → Hp → Int64 → Int32 → Int32 → Int32 → Option (Int64 × Hp)
  | 0, _, _, _, _, _ => none
  | n + 1, sg, l1, x3, x4, x5 =>
    if (4 : Int32) ≤ x5 then
      (f_Mod_shortestOf sg x3 x4).bind fun y14 =>
        (f_Mod_waysOf y14.2 x3 x4).bind fun y15 =>
          f_Mod_digest_122 k45 LF y15.2 (((31 : Int64) * (((31 : Int64) * l1) + (y14.1).toInt64)) + (y15.1).toInt64) x3 x4 (0 : Int32)
    else
      (f_Mod_atOf sg x3 x5).bind fun y20 =>
        f_Mod_digest_62 k45 n y20.2 (((31 : Int64) * l1) + (y20.1).toInt64) x3 x4 (x5 + (1 : Int32))
def f_Mod_digest_45  : Nat → Hp → Int64 → Int32 → Option (Int64 × Hp)
  | 0, _, _, _ => none
  | n + 1, sg, l1, x3 =>
    if (8 : Int32) ≤ x3 then
      (f_Mod_rolls sg ).bind fun y2 =>
        f_Mod_digest_209  LF y2.2 l1 y2.1 (0 : Int32)
    else
      f_Mod_digest_62 (f_Mod_digest_45 n) LF sg l1 x3 ((x3 + (1 : Int32)) - (x3 + (1 : Int32)) / (8 : Int32) * (8 : Int32)) (0 : Int32)
def f_Mod_digest_6  : Nat → Hp → Int64 → Int32 → Option (Int64 × Hp)
  | 0, _, _, _ => none
  | n + 1, sg, l1, x3 =>
    if (8 : Int32) ≤ x3 then
      (f_Mod_fault sg ).bind fun y1 =>
        f_Mod_digest_45  LF y1.2 (((31 : Int64) * l1) + (y1.1).toInt64) (0 : Int32)
    else
      (f_Mod_count sg x3).bind fun y21 =>
        f_Mod_digest_6 n y21.2 (((31 : Int64) * l1) + (y21.1).toInt64) (x3 + (1 : Int32))
def f_Mod_digest (sg : Hp)  : Option (Int64 × Hp) :=
  f_Mod_digest_6  LF sg (17 : Int64) (0 : Int32)
/-! BoxSpiderLaw.law, method 183 -/
def f_Law_law_1246 (L : Nat) (xs : Nat → Int32) (k18 : Hp → Int32 → Option (Int32 × Hp)) (sg : Hp) (x3 : Int32) : Option (Int32 × Hp) :=
  k18 sg (x3 + (6 : Int32))
def f_Law_law_18 (L : Nat) (xs : Nat → Int32) : Nat → Hp → Int32 → Option (Int32 × Hp)
  | 0, _, _ => none
  | n + 1, sg, x3 =>
    if ((Int32.ofNat L) - (6 : Int32)) < x3 then
      some ((1 : Int32), sg)
    else
      if inb x3 L = true then
        if ((xs (x3).toNatClampNeg) &&& (31 : Int32)) = (0 : Int32) then
          if inb (x3 + (1 : Int32)) L = true then
            if inb (x3 + (2 : Int32)) L = true then
              (f_Box_side sg (xs ((x3 + (1 : Int32))).toNatClampNeg) (xs ((x3 + (2 : Int32))).toNatClampNeg)).bind fun y5 =>
                if inb (x3 + (1 : Int32)) L = true then
                  if inb (x3 + (2 : Int32)) L = true then
                    (f_Mod_side y5.2 (xs ((x3 + (1 : Int32))).toNatClampNeg) (xs ((x3 + (2 : Int32))).toNatClampNeg)).bind fun y8 =>
                      if y5.1 = y8.1 then
                        f_Law_law_1246 L xs (f_Law_law_18 L xs n) y8.2 x3
                      else
                        some ((0 : Int32), y8.2)
                  else none
                else none
            else none
          else none
        else
          if ((xs (x3).toNatClampNeg) &&& (31 : Int32)) = (1 : Int32) then
            if inb (x3 + (1 : Int32)) L = true then
              if inb (x3 + (2 : Int32)) L = true then
                if inb (x3 + (3 : Int32)) L = true then
                  if inb (x3 + (4 : Int32)) L = true then
                    (f_Box_place sg (xs ((x3 + (1 : Int32))).toNatClampNeg) (xs ((x3 + (2 : Int32))).toNatClampNeg) (xs ((x3 + (3 : Int32))).toNatClampNeg) (xs ((x3 + (4 : Int32))).toNatClampNeg)).bind fun y13 =>
                      if inb (x3 + (1 : Int32)) L = true then
                        if inb (x3 + (2 : Int32)) L = true then
                          if inb (x3 + (3 : Int32)) L = true then
                            if inb (x3 + (4 : Int32)) L = true then
                              (f_Mod_place y13.2 (xs ((x3 + (1 : Int32))).toNatClampNeg) (xs ((x3 + (2 : Int32))).toNatClampNeg) (xs ((x3 + (3 : Int32))).toNatClampNeg) (xs ((x3 + (4 : Int32))).toNatClampNeg)).bind fun y18 =>
                                if y13.1 = y18.1 then
                                  f_Law_law_1246 L xs (f_Law_law_18 L xs n) y18.2 x3
                                else
                                  some ((0 : Int32), y18.2)
                            else none
                          else none
                        else none
                      else none
                  else none
                else none
              else none
            else none
          else
            if ((xs (x3).toNatClampNeg) &&& (31 : Int32)) = (2 : Int32) then
              if inb (x3 + (1 : Int32)) L = true then
                if inb (x3 + (2 : Int32)) L = true then
                  (f_Box_at sg (xs ((x3 + (1 : Int32))).toNatClampNeg) (xs ((x3 + (2 : Int32))).toNatClampNeg)).bind fun y21 =>
                    if inb (x3 + (1 : Int32)) L = true then
                      if inb (x3 + (2 : Int32)) L = true then
                        (f_Mod_at y21.2 (xs ((x3 + (1 : Int32))).toNatClampNeg) (xs ((x3 + (2 : Int32))).toNatClampNeg)).bind fun y24 =>
                          if y21.1 = y24.1 then
                            f_Law_law_1246 L xs (f_Law_law_18 L xs n) y24.2 x3
                          else
                            some ((0 : Int32), y24.2)
                      else none
                    else none
                else none
              else none
            else
              if ((xs (x3).toNatClampNeg) &&& (31 : Int32)) = (3 : Int32) then
                if inb (x3 + (1 : Int32)) L = true then
                  (f_Box_read sg (xs ((x3 + (1 : Int32))).toNatClampNeg)).bind fun y26 =>
                    if inb (x3 + (1 : Int32)) L = true then
                      (f_Mod_read y26.2 (xs ((x3 + (1 : Int32))).toNatClampNeg)).bind fun y28 =>
                        if y26.1 = y28.1 then
                          f_Law_law_1246 L xs (f_Law_law_18 L xs n) y28.2 x3
                        else
                          some ((0 : Int32), y28.2)
                    else none
                else none
              else
                if ((xs (x3).toNatClampNeg) &&& (31 : Int32)) = (4 : Int32) then
                  if inb (x3 + (1 : Int32)) L = true then
                    (f_Box_type sg (xs ((x3 + (1 : Int32))).toNatClampNeg)).bind fun y30 =>
                      if inb (x3 + (1 : Int32)) L = true then
                        (f_Mod_type y30.2 (xs ((x3 + (1 : Int32))).toNatClampNeg)).bind fun y32 =>
                          if y30.1 = y32.1 then
                            f_Law_law_1246 L xs (f_Law_law_18 L xs n) y32.2 x3
                          else
                            some ((0 : Int32), y32.2)
                      else none
                  else none
                else
                  if ((xs (x3).toNatClampNeg) &&& (31 : Int32)) = (5 : Int32) then
                    (f_Box_undo sg ).bind fun y33 =>
                      (f_Mod_undo y33.2 ).bind fun y34 =>
                        if y33.1 = y34.1 then
                          f_Law_law_1246 L xs (f_Law_law_18 L xs n) y34.2 x3
                        else
                          some ((0 : Int32), y34.2)
                  else
                    if ((xs (x3).toNatClampNeg) &&& (31 : Int32)) = (6 : Int32) then
                      (f_Box_wipe sg ).bind fun y35 =>
                        (f_Mod_wipe y35.2 ).bind fun y36 =>
                          if y35.1 = y36.1 then
                            f_Law_law_1246 L xs (f_Law_law_18 L xs n) y36.2 x3
                          else
                            some ((0 : Int32), y36.2)
                    else
                      if ((xs (x3).toNatClampNeg) &&& (31 : Int32)) = (7 : Int32) then
                        (f_Box_fault sg ).bind fun y37 =>
                          (f_Mod_fault y37.2 ).bind fun y38 =>
                            if y37.1 = y38.1 then
                              f_Law_law_1246 L xs (f_Law_law_18 L xs n) y38.2 x3
                            else
                              some ((0 : Int32), y38.2)
                      else
                        if ((xs (x3).toNatClampNeg) &&& (31 : Int32)) = (8 : Int32) then
                          if inb (x3 + (1 : Int32)) L = true then
                            if inb (x3 + (2 : Int32)) L = true then
                              if inb (x3 + (3 : Int32)) L = true then
                                (f_Box_bar sg (xs ((x3 + (1 : Int32))).toNatClampNeg) (xs ((x3 + (2 : Int32))).toNatClampNeg) (xs ((x3 + (3 : Int32))).toNatClampNeg)).bind fun y42 =>
                                  if inb (x3 + (1 : Int32)) L = true then
                                    if inb (x3 + (2 : Int32)) L = true then
                                      if inb (x3 + (3 : Int32)) L = true then
                                        (f_Mod_bar y42.2 (xs ((x3 + (1 : Int32))).toNatClampNeg) (xs ((x3 + (2 : Int32))).toNatClampNeg) (xs ((x3 + (3 : Int32))).toNatClampNeg)).bind fun y46 =>
                                          if y42.1 = y46.1 then
                                            f_Law_law_1246 L xs (f_Law_law_18 L xs n) y46.2 x3
                                          else
                                            some ((0 : Int32), y46.2)
                                      else none
                                    else none
                                  else none
                              else none
                            else none
                          else none
                        else
                          if ((xs (x3).toNatClampNeg) &&& (31 : Int32)) = (9 : Int32) then
                            if inb (x3 + (1 : Int32)) L = true then
                              if inb (x3 + (2 : Int32)) L = true then
                                (f_Box_laidOut sg (xs ((x3 + (1 : Int32))).toNatClampNeg) (xs ((x3 + (2 : Int32))).toNatClampNeg)).bind fun y49 =>
                                  if inb (x3 + (1 : Int32)) L = true then
                                    if inb (x3 + (2 : Int32)) L = true then
                                      (f_Mod_laidOut y49.2 (xs ((x3 + (1 : Int32))).toNatClampNeg) (xs ((x3 + (2 : Int32))).toNatClampNeg)).bind fun y52 =>
                                        if y49.1 = y52.1 then
                                          f_Law_law_1246 L xs (f_Law_law_18 L xs n) y52.2 x3
                                        else
                                          some ((0 : Int32), y52.2)
                                    else none
                                  else none
                              else none
                            else none
                          else
                            if ((xs (x3).toNatClampNeg) &&& (31 : Int32)) = (10 : Int32) then
                              if inb (x3 + (1 : Int32)) L = true then
                                if inb (x3 + (2 : Int32)) L = true then
                                  if inb (x3 + (3 : Int32)) L = true then
                                    (f_Box_lies sg (xs ((x3 + (1 : Int32))).toNatClampNeg) (xs ((x3 + (2 : Int32))).toNatClampNeg) (xs ((x3 + (3 : Int32))).toNatClampNeg)).bind fun y56 =>
                                      if inb (x3 + (1 : Int32)) L = true then
                                        if inb (x3 + (2 : Int32)) L = true then
                                          if inb (x3 + (3 : Int32)) L = true then
                                            (f_Mod_lies y56.2 (xs ((x3 + (1 : Int32))).toNatClampNeg) (xs ((x3 + (2 : Int32))).toNatClampNeg) (xs ((x3 + (3 : Int32))).toNatClampNeg)).bind fun y60 =>
                                              if y56.1 = y60.1 then
                                                f_Law_law_1246 L xs (f_Law_law_18 L xs n) y60.2 x3
                                              else
                                                some ((0 : Int32), y60.2)
                                          else none
                                        else none
                                      else none
                                  else none
                                else none
                              else none
                            else
                              if ((xs (x3).toNatClampNeg) &&& (31 : Int32)) = (11 : Int32) then
                                if inb (x3 + (1 : Int32)) L = true then
                                  if inb (x3 + (2 : Int32)) L = true then
                                    (f_Box_shortest sg (xs ((x3 + (1 : Int32))).toNatClampNeg) (xs ((x3 + (2 : Int32))).toNatClampNeg)).bind fun y63 =>
                                      if inb (x3 + (1 : Int32)) L = true then
                                        if inb (x3 + (2 : Int32)) L = true then
                                          (f_Mod_shortest y63.2 (xs ((x3 + (1 : Int32))).toNatClampNeg) (xs ((x3 + (2 : Int32))).toNatClampNeg)).bind fun y66 =>
                                            if y63.1 = y66.1 then
                                              f_Law_law_1246 L xs (f_Law_law_18 L xs n) y66.2 x3
                                            else
                                              some ((0 : Int32), y66.2)
                                        else none
                                      else none
                                  else none
                                else none
                              else
                                if ((xs (x3).toNatClampNeg) &&& (31 : Int32)) = (12 : Int32) then
                                  if inb (x3 + (1 : Int32)) L = true then
                                    if inb (x3 + (2 : Int32)) L = true then
                                      (f_Box_ways sg (xs ((x3 + (1 : Int32))).toNatClampNeg) (xs ((x3 + (2 : Int32))).toNatClampNeg)).bind fun y69 =>
                                        if inb (x3 + (1 : Int32)) L = true then
                                          if inb (x3 + (2 : Int32)) L = true then
                                            (f_Mod_ways y69.2 (xs ((x3 + (1 : Int32))).toNatClampNeg) (xs ((x3 + (2 : Int32))).toNatClampNeg)).bind fun y72 =>
                                              if y69.1 = y72.1 then
                                                f_Law_law_1246 L xs (f_Law_law_18 L xs n) y72.2 x3
                                              else
                                                some ((0 : Int32), y72.2)
                                          else none
                                        else none
                                    else none
                                  else none
                                else
                                  if ((xs (x3).toNatClampNeg) &&& (31 : Int32)) = (13 : Int32) then
                                    if inb (x3 + (1 : Int32)) L = true then
                                      if inb (x3 + (2 : Int32)) L = true then
                                        if inb (x3 + (3 : Int32)) L = true then
                                          (f_Box_face sg (xs ((x3 + (1 : Int32))).toNatClampNeg) (xs ((x3 + (2 : Int32))).toNatClampNeg) (xs ((x3 + (3 : Int32))).toNatClampNeg)).bind fun y76 =>
                                            if inb (x3 + (1 : Int32)) L = true then
                                              if inb (x3 + (2 : Int32)) L = true then
                                                if inb (x3 + (3 : Int32)) L = true then
                                                  (f_Mod_face y76.2 (xs ((x3 + (1 : Int32))).toNatClampNeg) (xs ((x3 + (2 : Int32))).toNatClampNeg) (xs ((x3 + (3 : Int32))).toNatClampNeg)).bind fun y80 =>
                                                    if y76.1 = y80.1 then
                                                      f_Law_law_1246 L xs (f_Law_law_18 L xs n) y80.2 x3
                                                    else
                                                      some ((0 : Int32), y80.2)
                                                else none
                                              else none
                                            else none
                                        else none
                                      else none
                                    else none
                                  else
                                    if ((xs (x3).toNatClampNeg) &&& (31 : Int32)) = (14 : Int32) then
                                      if inb (x3 + (1 : Int32)) L = true then
                                        (f_Box_farthest sg (xs ((x3 + (1 : Int32))).toNatClampNeg)).bind fun y82 =>
                                          if inb (x3 + (1 : Int32)) L = true then
                                            (f_Mod_farthest y82.2 (xs ((x3 + (1 : Int32))).toNatClampNeg)).bind fun y84 =>
                                              if y82.1 = y84.1 then
                                                f_Law_law_1246 L xs (f_Law_law_18 L xs n) y84.2 x3
                                              else
                                                some ((0 : Int32), y84.2)
                                          else none
                                      else none
                                    else
                                      if ((xs (x3).toNatClampNeg) &&& (31 : Int32)) = (15 : Int32) then
                                        (f_Box_sit sg ).bind fun y85 =>
                                          (f_Mod_sit y85.2 ).bind fun y86 =>
                                            if y85.1 = y86.1 then
                                              f_Law_law_1246 L xs (f_Law_law_18 L xs n) y86.2 x3
                                            else
                                              some ((0 : Int32), y86.2)
                                      else
                                        if ((xs (x3).toNatClampNeg) &&& (31 : Int32)) = (16 : Int32) then
                                          if inb (x3 + (1 : Int32)) L = true then
                                            if inb (x3 + (2 : Int32)) L = true then
                                              (f_Box_nearer sg (xs ((x3 + (1 : Int32))).toNatClampNeg) (xs ((x3 + (2 : Int32))).toNatClampNeg)).bind fun y89 =>
                                                if inb (x3 + (1 : Int32)) L = true then
                                                  if inb (x3 + (2 : Int32)) L = true then
                                                    (f_Mod_nearer y89.2 (xs ((x3 + (1 : Int32))).toNatClampNeg) (xs ((x3 + (2 : Int32))).toNatClampNeg)).bind fun y92 =>
                                                      if y89.1 = y92.1 then
                                                        f_Law_law_1246 L xs (f_Law_law_18 L xs n) y92.2 x3
                                                      else
                                                        some ((0 : Int32), y92.2)
                                                  else none
                                                else none
                                            else none
                                          else none
                                        else
                                          if ((xs (x3).toNatClampNeg) &&& (31 : Int32)) = (17 : Int32) then
                                            if inb (x3 + (1 : Int32)) L = true then
                                              if inb (x3 + (2 : Int32)) L = true then
                                                (f_Box_wires sg (xs ((x3 + (1 : Int32))).toNatClampNeg) (xs ((x3 + (2 : Int32))).toNatClampNeg)).bind fun y95 =>
                                                  if inb (x3 + (1 : Int32)) L = true then
                                                    if inb (x3 + (2 : Int32)) L = true then
                                                      (f_Mod_wires y95.2 (xs ((x3 + (1 : Int32))).toNatClampNeg) (xs ((x3 + (2 : Int32))).toNatClampNeg)).bind fun y98 =>
                                                        if y95.1 = y98.1 then
                                                          f_Law_law_1246 L xs (f_Law_law_18 L xs n) y98.2 x3
                                                        else
                                                          some ((0 : Int32), y98.2)
                                                    else none
                                                  else none
                                              else none
                                            else none
                                          else
                                            if ((xs (x3).toNatClampNeg) &&& (31 : Int32)) = (18 : Int32) then
                                              if inb (x3 + (1 : Int32)) L = true then
                                                if inb (x3 + (2 : Int32)) L = true then
                                                  (f_Box_within sg (xs ((x3 + (1 : Int32))).toNatClampNeg) (xs ((x3 + (2 : Int32))).toNatClampNeg)).bind fun y101 =>
                                                    if inb (x3 + (1 : Int32)) L = true then
                                                      if inb (x3 + (2 : Int32)) L = true then
                                                        (f_Mod_within y101.2 (xs ((x3 + (1 : Int32))).toNatClampNeg) (xs ((x3 + (2 : Int32))).toNatClampNeg)).bind fun y104 =>
                                                          if y101.1 = y104.1 then
                                                            f_Law_law_1246 L xs (f_Law_law_18 L xs n) y104.2 x3
                                                          else
                                                            some ((0 : Int32), y104.2)
                                                      else none
                                                    else none
                                                else none
                                              else none
                                            else
                                              if ((xs (x3).toNatClampNeg) &&& (31 : Int32)) = (19 : Int32) then
                                                if inb (x3 + (1 : Int32)) L = true then
                                                  if inb (x3 + (2 : Int32)) L = true then
                                                    if inb (x3 + (3 : Int32)) L = true then
                                                      if inb (x3 + (4 : Int32)) L = true then
                                                        (f_Box_told sg (xs ((x3 + (1 : Int32))).toNatClampNeg) (xs ((x3 + (2 : Int32))).toNatClampNeg) (xs ((x3 + (3 : Int32))).toNatClampNeg) (xs ((x3 + (4 : Int32))).toNatClampNeg)).bind fun y109 =>
                                                          if inb (x3 + (1 : Int32)) L = true then
                                                            if inb (x3 + (2 : Int32)) L = true then
                                                              if inb (x3 + (3 : Int32)) L = true then
                                                                if inb (x3 + (4 : Int32)) L = true then
                                                                  (f_Mod_told y109.2 (xs ((x3 + (1 : Int32))).toNatClampNeg) (xs ((x3 + (2 : Int32))).toNatClampNeg) (xs ((x3 + (3 : Int32))).toNatClampNeg) (xs ((x3 + (4 : Int32))).toNatClampNeg)).bind fun y114 =>
                                                                    if y109.1 = y114.1 then
                                                                      f_Law_law_1246 L xs (f_Law_law_18 L xs n) y114.2 x3
                                                                    else
                                                                      some ((0 : Int32), y114.2)
                                                                else none
                                                              else none
                                                            else none
                                                          else none
                                                      else none
                                                    else none
                                                  else none
                                                else none
                                              else
                                                if ((xs (x3).toNatClampNeg) &&& (31 : Int32)) = (20 : Int32) then
                                                  if inb (x3 + (1 : Int32)) L = true then
                                                    if inb (x3 + (2 : Int32)) L = true then
                                                      if inb (x3 + (3 : Int32)) L = true then
                                                        if inb (x3 + (4 : Int32)) L = true then
                                                          (f_Box_snail sg (xs ((x3 + (1 : Int32))).toNatClampNeg) (xs ((x3 + (2 : Int32))).toNatClampNeg) (xs ((x3 + (3 : Int32))).toNatClampNeg) (xs ((x3 + (4 : Int32))).toNatClampNeg)).bind fun y119 =>
                                                            if inb (x3 + (1 : Int32)) L = true then
                                                              if inb (x3 + (2 : Int32)) L = true then
                                                                if inb (x3 + (3 : Int32)) L = true then
                                                                  if inb (x3 + (4 : Int32)) L = true then
                                                                    (f_Mod_snail y119.2 (xs ((x3 + (1 : Int32))).toNatClampNeg) (xs ((x3 + (2 : Int32))).toNatClampNeg) (xs ((x3 + (3 : Int32))).toNatClampNeg) (xs ((x3 + (4 : Int32))).toNatClampNeg)).bind fun y124 =>
                                                                      if y119.1 = y124.1 then
                                                                        f_Law_law_1246 L xs (f_Law_law_18 L xs n) y124.2 x3
                                                                      else
                                                                        some ((0 : Int32), y124.2)
                                                                  else none
                                                                else none
                                                              else none
                                                            else none
                                                        else none
                                                      else none
                                                    else none
                                                  else none
                                                else
                                                  if ((xs (x3).toNatClampNeg) &&& (31 : Int32)) = (21 : Int32) then
                                                    if inb (x3 + (1 : Int32)) L = true then
                                                      if inb (x3 + (2 : Int32)) L = true then
                                                        if inb (x3 + (3 : Int32)) L = true then
                                                          if inb (x3 + (4 : Int32)) L = true then
                                                            (f_Box_thread sg (xs ((x3 + (1 : Int32))).toNatClampNeg) (xs ((x3 + (2 : Int32))).toNatClampNeg) (xs ((x3 + (3 : Int32))).toNatClampNeg) (xs ((x3 + (4 : Int32))).toNatClampNeg)).bind fun y129 =>
                                                              if inb (x3 + (1 : Int32)) L = true then
                                                                if inb (x3 + (2 : Int32)) L = true then
                                                                  if inb (x3 + (3 : Int32)) L = true then
                                                                    if inb (x3 + (4 : Int32)) L = true then
                                                                      (f_Mod_thread y129.2 (xs ((x3 + (1 : Int32))).toNatClampNeg) (xs ((x3 + (2 : Int32))).toNatClampNeg) (xs ((x3 + (3 : Int32))).toNatClampNeg) (xs ((x3 + (4 : Int32))).toNatClampNeg)).bind fun y134 =>
                                                                        if y129.1 = y134.1 then
                                                                          f_Law_law_1246 L xs (f_Law_law_18 L xs n) y134.2 x3
                                                                        else
                                                                          some ((0 : Int32), y134.2)
                                                                    else none
                                                                  else none
                                                                else none
                                                              else none
                                                          else none
                                                        else none
                                                      else none
                                                    else none
                                                  else
                                                    if ((xs (x3).toNatClampNeg) &&& (31 : Int32)) = (22 : Int32) then
                                                      if inb (x3 + (1 : Int32)) L = true then
                                                        if inb (x3 + (2 : Int32)) L = true then
                                                          if inb (x3 + (3 : Int32)) L = true then
                                                            if inb (x3 + (4 : Int32)) L = true then
                                                              (f_Box_flies sg (xs ((x3 + (1 : Int32))).toNatClampNeg) (xs ((x3 + (2 : Int32))).toNatClampNeg) (xs ((x3 + (3 : Int32))).toNatClampNeg) (xs ((x3 + (4 : Int32))).toNatClampNeg)).bind fun y139 =>
                                                                if inb (x3 + (1 : Int32)) L = true then
                                                                  if inb (x3 + (2 : Int32)) L = true then
                                                                    if inb (x3 + (3 : Int32)) L = true then
                                                                      if inb (x3 + (4 : Int32)) L = true then
                                                                        (f_Mod_flies y139.2 (xs ((x3 + (1 : Int32))).toNatClampNeg) (xs ((x3 + (2 : Int32))).toNatClampNeg) (xs ((x3 + (3 : Int32))).toNatClampNeg) (xs ((x3 + (4 : Int32))).toNatClampNeg)).bind fun y144 =>
                                                                          if y139.1 = y144.1 then
                                                                            f_Law_law_1246 L xs (f_Law_law_18 L xs n) y144.2 x3
                                                                          else
                                                                            some ((0 : Int32), y144.2)
                                                                      else none
                                                                    else none
                                                                  else none
                                                                else none
                                                            else none
                                                          else none
                                                        else none
                                                      else none
                                                    else
                                                      if ((xs (x3).toNatClampNeg) &&& (31 : Int32)) = (23 : Int32) then
                                                        if inb (x3 + (1 : Int32)) L = true then
                                                          if inb (x3 + (2 : Int32)) L = true then
                                                            if inb (x3 + (3 : Int32)) L = true then
                                                              (f_Box_sheet sg (xs ((x3 + (1 : Int32))).toNatClampNeg) (xs ((x3 + (2 : Int32))).toNatClampNeg) (xs ((x3 + (3 : Int32))).toNatClampNeg)).bind fun y148 =>
                                                                if inb (x3 + (1 : Int32)) L = true then
                                                                  if inb (x3 + (2 : Int32)) L = true then
                                                                    if inb (x3 + (3 : Int32)) L = true then
                                                                      (f_Mod_sheet y148.2 (xs ((x3 + (1 : Int32))).toNatClampNeg) (xs ((x3 + (2 : Int32))).toNatClampNeg) (xs ((x3 + (3 : Int32))).toNatClampNeg)).bind fun y152 =>
                                                                        if y148.1 = y152.1 then
                                                                          f_Law_law_1246 L xs (f_Law_law_18 L xs n) y152.2 x3
                                                                        else
                                                                          some ((0 : Int32), y152.2)
                                                                    else none
                                                                  else none
                                                                else none
                                                            else none
                                                          else none
                                                        else none
                                                      else
                                                        if ((xs (x3).toNatClampNeg) &&& (31 : Int32)) = (24 : Int32) then
                                                          if inb (x3 + (1 : Int32)) L = true then
                                                            (f_Box_lose sg (xs ((x3 + (1 : Int32))).toNatClampNeg)).bind fun y154 =>
                                                              if inb (x3 + (1 : Int32)) L = true then
                                                                (f_Mod_lose y154.2 (xs ((x3 + (1 : Int32))).toNatClampNeg)).bind fun y156 =>
                                                                  if y154.1 = y156.1 then
                                                                    f_Law_law_1246 L xs (f_Law_law_18 L xs n) y156.2 x3
                                                                  else
                                                                    some ((0 : Int32), y156.2)
                                                              else none
                                                          else none
                                                        else
                                                          if ((xs (x3).toNatClampNeg) &&& (31 : Int32)) = (25 : Int32) then
                                                            if inb (x3 + (1 : Int32)) L = true then
                                                              if inb (x3 + (2 : Int32)) L = true then
                                                                if inb (x3 + (3 : Int32)) L = true then
                                                                  if inb (x3 + (4 : Int32)) L = true then
                                                                    (f_Box_lay sg (xs ((x3 + (1 : Int32))).toNatClampNeg) (xs ((x3 + (2 : Int32))).toNatClampNeg) (xs ((x3 + (3 : Int32))).toNatClampNeg) (xs ((x3 + (4 : Int32))).toNatClampNeg)).bind fun y161 =>
                                                                      if inb (x3 + (1 : Int32)) L = true then
                                                                        if inb (x3 + (2 : Int32)) L = true then
                                                                          if inb (x3 + (3 : Int32)) L = true then
                                                                            if inb (x3 + (4 : Int32)) L = true then
                                                                              (f_Mod_lay y161.2 (xs ((x3 + (1 : Int32))).toNatClampNeg) (xs ((x3 + (2 : Int32))).toNatClampNeg) (xs ((x3 + (3 : Int32))).toNatClampNeg) (xs ((x3 + (4 : Int32))).toNatClampNeg)).bind fun y166 =>
                                                                                if y161.1 = y166.1 then
                                                                                  f_Law_law_1246 L xs (f_Law_law_18 L xs n) y166.2 x3
                                                                                else
                                                                                  some ((0 : Int32), y166.2)
                                                                            else none
                                                                          else none
                                                                        else none
                                                                      else none
                                                                  else none
                                                                else none
                                                              else none
                                                            else none
                                                          else
                                                            if ((xs (x3).toNatClampNeg) &&& (31 : Int32)) = (26 : Int32) then
                                                              if inb (x3 + (1 : Int32)) L = true then
                                                                if inb (x3 + (2 : Int32)) L = true then
                                                                  if inb (x3 + (3 : Int32)) L = true then
                                                                    (f_Box_get sg (xs ((x3 + (1 : Int32))).toNatClampNeg) (xs ((x3 + (2 : Int32))).toNatClampNeg) (xs ((x3 + (3 : Int32))).toNatClampNeg)).bind fun y170 =>
                                                                      if inb (x3 + (1 : Int32)) L = true then
                                                                        if inb (x3 + (2 : Int32)) L = true then
                                                                          if inb (x3 + (3 : Int32)) L = true then
                                                                            (f_Mod_get y170.2 (xs ((x3 + (1 : Int32))).toNatClampNeg) (xs ((x3 + (2 : Int32))).toNatClampNeg) (xs ((x3 + (3 : Int32))).toNatClampNeg)).bind fun y174 =>
                                                                              if y170.1 = y174.1 then
                                                                                f_Law_law_1246 L xs (f_Law_law_18 L xs n) y174.2 x3
                                                                              else
                                                                                some ((0 : Int32), y174.2)
                                                                          else none
                                                                        else none
                                                                      else none
                                                                  else none
                                                                else none
                                                              else none
                                                            else
                                                              if ((xs (x3).toNatClampNeg) &&& (31 : Int32)) = (27 : Int32) then
                                                                if inb (x3 + (1 : Int32)) L = true then
                                                                  if inb (x3 + (2 : Int32)) L = true then
                                                                    if inb (x3 + (3 : Int32)) L = true then
                                                                      if inb (x3 + (4 : Int32)) L = true then
                                                                        if inb (x3 + (5 : Int32)) L = true then
                                                                          (f_Box_copy sg (xs ((x3 + (1 : Int32))).toNatClampNeg) (xs ((x3 + (2 : Int32))).toNatClampNeg) (xs ((x3 + (3 : Int32))).toNatClampNeg) (xs ((x3 + (4 : Int32))).toNatClampNeg) (xs ((x3 + (5 : Int32))).toNatClampNeg)).bind fun y180 =>
                                                                            if inb (x3 + (1 : Int32)) L = true then
                                                                              if inb (x3 + (2 : Int32)) L = true then
                                                                                if inb (x3 + (3 : Int32)) L = true then
                                                                                  if inb (x3 + (4 : Int32)) L = true then
                                                                                    if inb (x3 + (5 : Int32)) L = true then
                                                                                      (f_Mod_copy y180.2 (xs ((x3 + (1 : Int32))).toNatClampNeg) (xs ((x3 + (2 : Int32))).toNatClampNeg) (xs ((x3 + (3 : Int32))).toNatClampNeg) (xs ((x3 + (4 : Int32))).toNatClampNeg) (xs ((x3 + (5 : Int32))).toNatClampNeg)).bind fun y186 =>
                                                                                        if y180.1 = y186.1 then
                                                                                          f_Law_law_1246 L xs (f_Law_law_18 L xs n) y186.2 x3
                                                                                        else
                                                                                          some ((0 : Int32), y186.2)
                                                                                    else none
                                                                                  else none
                                                                                else none
                                                                              else none
                                                                            else none
                                                                        else none
                                                                      else none
                                                                    else none
                                                                  else none
                                                                else none
                                                              else
                                                                if ((xs (x3).toNatClampNeg) &&& (31 : Int32)) = (28 : Int32) then
                                                                  if inb (x3 + (1 : Int32)) L = true then
                                                                    if inb (x3 + (2 : Int32)) L = true then
                                                                      (f_Box_write sg (xs ((x3 + (1 : Int32))).toNatClampNeg) (xs ((x3 + (2 : Int32))).toNatClampNeg)).bind fun y189 =>
                                                                        if inb (x3 + (1 : Int32)) L = true then
                                                                          if inb (x3 + (2 : Int32)) L = true then
                                                                            (f_Mod_write y189.2 (xs ((x3 + (1 : Int32))).toNatClampNeg) (xs ((x3 + (2 : Int32))).toNatClampNeg)).bind fun y192 =>
                                                                              if y189.1 = y192.1 then
                                                                                f_Law_law_1246 L xs (f_Law_law_18 L xs n) y192.2 x3
                                                                              else
                                                                                some ((0 : Int32), y192.2)
                                                                          else none
                                                                        else none
                                                                    else none
                                                                  else none
                                                                else
                                                                  if ((xs (x3).toNatClampNeg) &&& (31 : Int32)) = (29 : Int32) then
                                                                    if inb (x3 + (1 : Int32)) L = true then
                                                                      (f_Box_count sg (xs ((x3 + (1 : Int32))).toNatClampNeg)).bind fun y194 =>
                                                                        if inb (x3 + (1 : Int32)) L = true then
                                                                          (f_Mod_count y194.2 (xs ((x3 + (1 : Int32))).toNatClampNeg)).bind fun y196 =>
                                                                            if y194.1 = y196.1 then
                                                                              f_Law_law_1246 L xs (f_Law_law_18 L xs n) y196.2 x3
                                                                            else
                                                                              some ((0 : Int32), y196.2)
                                                                        else none
                                                                    else none
                                                                  else
                                                                    if ((xs (x3).toNatClampNeg) &&& (31 : Int32)) = (30 : Int32) then
                                                                      (f_Box_digest sg ).bind fun y197 =>
                                                                        (f_Mod_digest y197.2 ).bind fun y198 =>
                                                                          if (lg_cmp y197.1 y198.1) = (0 : Int32) then
                                                                            f_Law_law_1246 L xs (f_Law_law_18 L xs n) y198.2 x3
                                                                          else
                                                                            some ((0 : Int32), y198.2)
                                                                    else
                                                                      f_Law_law_1246 L xs (f_Law_law_18 L xs n) sg x3
      else none
