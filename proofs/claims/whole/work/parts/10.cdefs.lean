noncomputable def Lots_append_j42_l3 (S : St) (x1 : Int32) (x2 : Int32) : Option ((St × Int32) ⊕ St) :=
  nm (x2 + (-8 : Int32)) fun x2_6 =>
  some (.inl (S, x2_6))
noncomputable def Lots_append_l3 (x1 : Int32) (S : St) (x2 : Int32) : Option ((St × Int32) ⊕ St) :=
  if x2 < 0 then (
    some (.inr S))
  else (
    if (nI 2000) ≤ (gI S 0 6) then (
      Lots_append_j42_l3 S x1 x2)
    else (
      gd (inb (gI S 0 6) 2000) <|
      nm (pA S 0 0 (gI S 0 6).toNatClampNeg (vp_nar .byte ((x1.toUInt32 >>> (x2.toUInt32 &&& Int32.toUInt32 31)).toInt32.toInt8.toInt32))) fun S_4 =>
      nm (pI S_4 0 6 ((gI S_4 0 6) + (1 : Int32))) fun S_5 =>
      Lots_append_j42_l3 S_5 x1 x2))
noncomputable def f_Lots_append (S : St) (x1 : Int32) : Option St :=
  bd (wh (un2 (Lots_append_l3 x1)) (S, (24 : Int32))) fun S_7 =>
  some S_7
noncomputable def f_Lots_feed (S : St) (x1 : Int32) (x2 : Int32) (x3 : Int32) (x4 : Int32) (x5 : Int32) : Option (Int32 × St) :=
  if ((gI S 0 6) + (20 : Int32)) ≤ (2000 : Int32) then (
    bd (f_Lots_append S x1) fun S_3 =>
    bd (f_Lots_append S_3 x2) fun S_5 =>
    bd (f_Lots_append S_5 x3) fun S_7 =>
    bd (f_Lots_append S_7 x4) fun S_9 =>
    bd (f_Lots_append S_9 x5) fun S_11 =>
    some ((gI S_11 0 6), S_11))
  else (
    some ((-1 : Int32), S))
noncomputable def Lots_back_j12 (S : St) : Option (Int32 × St) :=
  some ((-1 : Int32), S)
noncomputable def f_Lots_back (S : St) (x1 : Int32) : Option (Int32 × St) :=
  if x1 < 0 then (
    Lots_back_j12 S)
  else (
    if x1 ≤ (gI S 0 6) then (
      nm (pI S 0 6 ((gI S 0 6) - x1)) fun S_3 =>
      some ((gI S_3 0 6), S_3))
    else (
      Lots_back_j12 S))
noncomputable def f_Bins_forget (S : St) : Option St :=
  nm (pI S 8 8 (0 : Int32)) fun S_1 =>
  nm (pI S_1 8 9 (0 : Int32)) fun S_2 =>
  nm (pI S_2 8 10 (0 : Int32)) fun S_3 =>
  some S_3
noncomputable def f_Lots_forgetLawful (S : St) : Option St :=
  bd (f_Bins_forget S) fun S_2 =>
  nm (pI S_2 9 6 (0 : Int32)) fun S_3 =>
  some S_3
noncomputable def f_Lots_place (S : St) : Option Int32 :=
  some (gI S 0 7)
noncomputable def Book_toldOf_j23 (b : Nat) (S : St) (t0 : Int32) : Option Int32 :=
  some t0
noncomputable def Book_toldOf_j22 (b : Nat) (S : St) : Option Int32 :=
  Book_toldOf_j23 b S (0 : Int32)
noncomputable def f_Book_toldOf (b : Nat) (S : St) (x1 : Int32) : Option Int32 :=
  if x1 < 0 then (
    Book_toldOf_j22 b S)
  else (
    if (nI (lenC S b 4)) ≤ x1 then (
      Book_toldOf_j22 b S)
    else (
      gd (inb x1 (lenC S b 4)) <|
      Book_toldOf_j23 b S (gA S b 4 x1.toNatClampNeg)))
noncomputable def Book_has_j18 (S : St) (t0 : Int32) : Option Int32 :=
  gd (isB t0) <|
  some t0
noncomputable def Book_has_j17 (S : St) : Option Int32 :=
  Book_has_j18 S (0 : Int32)
noncomputable def f_Book_has (S : St) (x1 : Int32) (x2 : Int32) : Option Int32 :=
  if x2 < 0 then (
    Book_has_j17 S)
  else (
    bd (f_Book_toldOf 5 S x1) fun v_3 =>
    if v_3 ≤ x2 then (
      Book_has_j17 S)
    else (
      Book_has_j18 S (1 : Int32)))
noncomputable def Chart_isOn_j16 (S : St) (t0 : Int32) : Option Int32 :=
  gd (isB t0) <|
  some t0
noncomputable def f_Chart_isOn (S : St) (x1 : Int32) : Option Int32 :=
  if (((gI S 4 12) >>> (x1 &&& 31)) &&& (1 : Int32)) = 0 then (
    Chart_isOn_j16 S (0 : Int32))
  else (
    Chart_isOn_j16 S (1 : Int32))
noncomputable def f_Chart_swapLaw (S : St) (x1 : Int32) : Option St :=
  nm (pI S 4 12 ((gI S 4 12) ^^^ ((1 : Int32) <<< (x1 &&& 31)))) fun S_1 =>
  nm (pI S_1 4 16 (0 : Int32)) fun S_2 =>
  nm (pI S_2 4 17 (0 : Int32)) fun S_3 =>
  some S_3
noncomputable def Lots_turn_j27 (S : St) : Option (Int32 × St) :=
  some ((0 : Int32), S)
noncomputable def f_Lots_turn (S : St) (x1 : Int32) (x2 : Int32) : Option (Int32 × St) :=
  bd (f_Book_has S (0 : Int32) x1) fun v_2 =>
  if v_2 = 0 then (
    Lots_turn_j27 S)
  else (
    bd (f_Chart_isOn S x1) fun v_5 =>
    if v_5 = x2 then (
      Lots_turn_j27 S)
    else (
      bd (f_Chart_swapLaw S x1) fun S_8 =>
      bd (f_Lots_forgetLawful S_8) fun S_10 =>
      some ((1 : Int32), S_10)))
noncomputable def Log_inputOf_j31 (S : St) (t0 : Int32) : Option Int32 :=
  some t0
noncomputable def Log_inputOf_j30 (S : St) : Option Int32 :=
  Log_inputOf_j31 S (0 : Int32)
noncomputable def f_Log_inputOf (S : St) (x1 : Int32) : Option Int32 :=
  if x1 < 0 then (
    Log_inputOf_j30 S)
  else (
    if (gI S 7 1) ≤ x1 then (
      Log_inputOf_j30 S)
    else (
      if (nI 200) ≤ x1 then (
        Log_inputOf_j30 S)
      else (
        gd (inb x1 200) <|
        Log_inputOf_j31 S (gA S 7 0 x1.toNatClampNeg))))
noncomputable def Book_valueIn_j69 (S : St) (t0 : Int32) (t1 : Int32) : Option Int32 :=
  some (t0 + t1)
noncomputable def Book_valueIn_j68 (S : St) (t0 : Int32) : Option Int32 :=
  Book_valueIn_j69 S t0 (0 : Int32)
noncomputable def Book_valueIn_j18 (S : St) : Option Int32 :=
  some (-1 : Int32)
noncomputable def f_Book_valueIn (S : St) (x1 : Int32) (x2 : Int32) : Option Int32 :=
  if x2 < 0 then (
    Book_valueIn_j18 S)
  else (
    if (gI S 5 10) ≤ x2 then (
      Book_valueIn_j18 S)
    else (
      if x2 < (6 : Int32) then (
        gd (inb x2 8) <|
        gd (inb x2 8) <|
        nm (((gA S 5 2 x2.toNatClampNeg) - (gA S 5 1 x2.toNatClampNeg)) + (1 : Int32)) fun x3_6 =>
        gd (inb x2 8) <|
        gd (inb x2 8) <|
        if (gA S 5 3 x2.toNatClampNeg) ≤ 0 then (
          Book_valueIn_j68 S (gA S 5 1 x2.toNatClampNeg))
        else (
          if x3_6 ≤ 0 then (
            Book_valueIn_j68 S (gA S 5 1 x2.toNatClampNeg))
          else (
            gd (inb x2 8) <|
            gd (nz (gA S 5 3 x2.toNatClampNeg)) <|
            gd (nz x3_6) <|
            Book_valueIn_j69 S (gA S 5 1 x2.toNatClampNeg) ((x1 / (gA S 5 3 x2.toNatClampNeg)) - (x1 / (gA S 5 3 x2.toNatClampNeg)) / x3_6 * x3_6))))
      else (
        Book_valueIn_j18 S)))
noncomputable def Lots_logged_j38 (S : St) (t0 : Int32) : Option Int32 :=
  some t0
noncomputable def Lots_logged_j15 (S : St) : Option Int32 :=
  Lots_logged_j38 S (-1 : Int32)
noncomputable def f_Lots_logged (S : St) (x1 : Int32) (x2 : Int32) : Option Int32 :=
  if x1 < 0 then (
    Lots_logged_j15 S)
  else (
    if x1 < (gI S 7 1) then (
      bd (f_Log_inputOf S x1) fun v_4 =>
      bd (f_Book_valueIn S v_4 x2) fun v_6 =>
      Lots_logged_j38 S v_6)
    else (
      Lots_logged_j15 S))
noncomputable def f_Lots_count (S : St) (x1 : Int32) : Option Int32 :=
  if x1 = (0 : Int32) then (
    some (gI S 5 10))
  else
  if x1 = (1 : Int32) then (
    bd (f_Book_toldOf 5 S (0 : Int32)) fun v_4 =>
    some v_4)
  else
  if x1 = (2 : Int32) then (
    bd (f_Book_toldOf 5 S (1 : Int32)) fun v_7 =>
    some v_7)
  else
  if x1 = (3 : Int32) then (
    bd (f_Book_toldOf 5 S (2 : Int32)) fun v_10 =>
    some v_10)
  else
  if x1 = (4 : Int32) then (
    bd (f_Book_toldOf 5 S (3 : Int32)) fun v_13 =>
    some v_13)
  else
  if x1 = (5 : Int32) then (
    bd (f_Book_toldOf 5 S (4 : Int32)) fun v_16 =>
    some v_16)
  else
  if x1 = (6 : Int32) then (
    some (gI S 5 11))
  else
  if x1 = (7 : Int32) then (
    some (gI S 7 1))
  else
  if x1 = (8 : Int32) then (
    some (gI S 0 6))
  else
  (
    some (-1 : Int32))
noncomputable def Arrays_fill_l5 (o1 : Nat) (k1 : Nat) (x1 : Int32) (x3 : Int32) (S : St) (x2 : Int32) : Option ((St × Int32) ⊕ St) :=
  if x3 ≤ x2 then (
    some (.inr S))
  else (
    gd (inb x2 (lenC S o1 k1)) <|
    nm (pA S o1 k1 x2.toNatClampNeg x1) fun S_4 =>
    nm (x2 + (1 : Int32)) fun x2_5 =>
    some (.inl (S_4, x2_5)))
noncomputable def f_Arrays_fill (o1 : Nat) (k1 : Nat) (S : St) (x1 : Int32) : Option St :=
  nm (nI (lenC S o1 k1)) fun x3_1 =>
  bd (wh (un2 (Arrays_fill_l5 o1 k1 x1 x3_1)) (S, (0 : Int32))) fun S_6 =>
  some S_6
noncomputable def Chart_inputOf_j31 (S : St) (t0 : Int32) : Option Int32 :=
  some t0
noncomputable def Chart_inputOf_j30 (S : St) : Option Int32 :=
  Chart_inputOf_j31 S (0 : Int32)
noncomputable def f_Chart_inputOf (S : St) (x1 : Int32) : Option Int32 :=
  if x1 < 0 then (
    Chart_inputOf_j30 S)
  else (
    if (gI S 4 9) ≤ x1 then (
      Chart_inputOf_j30 S)
    else (
      if (nI (gN S 4 7)) ≤ x1 then (
        Chart_inputOf_j30 S)
      else (
        gd (inb x1 (gN S 4 7)) <|
        Chart_inputOf_j31 S (gA S 4 7 x1.toNatClampNeg))))
noncomputable def Chart_marksOf_j23 (S : St) (t0 : Int32) : Option Int32 :=
  some t0
noncomputable def Chart_marksOf_j22 (S : St) : Option Int32 :=
  Chart_marksOf_j23 S (0 : Int32)
noncomputable def f_Chart_marksOf (S : St) (x1 : Int32) : Option Int32 :=
  if x1 < 0 then (
    Chart_marksOf_j22 S)
  else (
    if (nI (gN S 4 5)) ≤ x1 then (
      Chart_marksOf_j22 S)
    else (
      gd (inb x1 (gN S 4 5)) <|
      Chart_marksOf_j23 S (gA S 4 5 x1.toNatClampNeg)))
noncomputable def f_Chart_binsOf (S : St) (x1 : Int32) : Option Int32 :=
  bd (f_Chart_marksOf S x1) fun v_2 =>
  some ((v_2 >>> ((16 : Int32) &&& 31)) &&& (255 : Int32))
noncomputable def Lots_addSupersets_j60_l26 (o1 : Nat) (k1 : Nat) (S : St) (x2 : Int32) (x3 : Int32) (x4 : Int32) : Option ((St × Int32) ⊕ St) :=
  nm (x4 + (1 : Int32)) fun x4_11 =>
  some (.inl (S, x4_11))
noncomputable def Lots_addSupersets_l26 (o1 : Nat) (k1 : Nat) (x2 : Int32) (x3 : Int32) (S : St) (x4 : Int32) : Option ((St × Int32) ⊕ St) :=
  if x2 ≤ x4 then (
    some (.inr S))
  else (
    if (x4 &&& x3) = 0 then (
      if x2 ≤ (x4 ||| x3) then (
        Lots_addSupersets_j60_l26 o1 k1 S x2 x3 x4)
      else (
        gd (inb x4 (lenC S o1 k1)) <|
        gd (inb (x4 ||| x3) (lenC S o1 k1)) <|
        gd (inb x4 (lenC S o1 k1)) <|
        nm (pA S o1 k1 x4.toNatClampNeg ((gA S o1 k1 x4.toNatClampNeg) + (gA S o1 k1 (x4 ||| x3).toNatClampNeg))) fun S_10 =>
        Lots_addSupersets_j60_l26 o1 k1 S_10 x2 x3 x4))
    else (
      Lots_addSupersets_j60_l26 o1 k1 S x2 x3 x4))
noncomputable def Lots_addSupersets_l11 (o1 : Nat) (k1 : Nat) (x2 : Int32) (S : St) (x3 : Int32) : Option ((St × Int32) ⊕ St) :=
  if x2 ≤ x3 then (
    some (.inr S))
  else (
    if (256 : Int32) ≤ x3 then (
      some (.inr S))
    else (
      bd (wh (un2 (Lots_addSupersets_l26 o1 k1 x2 x3)) (S, (0 : Int32))) fun S_12 =>
      nm (x3 <<< ((1 : Int32) &&& 31)) fun x3_14 =>
      some (.inl (S_12, x3_14))))
noncomputable def Lots_addSupersets_j73 (o1 : Nat) (k1 : Nat) (S : St) : Option St :=
  some S
noncomputable def f_Lots_addSupersets (o1 : Nat) (k1 : Nat) (S : St) (x1 : Int32) : Option St :=
  nm (if ((1 : Int32) <<< (x1 &&& 31)) < (nI (lenC S o1 k1)) then ((1 : Int32) <<< (x1 &&& 31)) else (nI (lenC S o1 k1))) fun x2_1 =>
  bd (wh (un2 (Lots_addSupersets_l11 o1 k1 x2_1)) (S, (1 : Int32))) fun S_15 =>
  Lots_addSupersets_j73 o1 k1 S_15
noncomputable def Bins_refresh_j94_l23 (S : St) (x2 : Int32) (x3 : Int32) : Option ((St × Int32) ⊕ St) :=
  gd (inb x3 256) <|
  gd (inb x3 256) <|
  nm (pA S 8 0 x3.toNatClampNeg ((gA S 8 0 x3.toNatClampNeg) + (1 : Int32))) fun S_21 =>
  nm (x2 + (1 : Int32)) fun x2_22 =>
  some (.inl (S_21, x2_22))
noncomputable def Bins_refresh_l23 (S : St) (x2 : Int32) : Option ((St × Int32) ⊕ St) :=
  if (gI S 4 9) ≤ x2 then (
    some (.inr S))
  else (
    bd (f_Chart_inputOf S x2) fun v_7 =>
    bd (f_Chart_binsOf S v_7) fun v_9 =>
    nm (v_9 &&& (255 : Int32)) fun x3_10 =>
    gd (inb x3_10 256) <|
    if (gA S 8 0 x3_10.toNatClampNeg) = 0 then (
      if (256 : Int32) ≤ (gI S 8 6) then (
        Bins_refresh_j94_l23 S x2 x3_10)
      else (
        gd (inb (gI S 8 6) 256) <|
        nm (pA S 8 1 (gI S 8 6).toNatClampNeg x3_10) fun S_15 =>
        gd (inb (gI S_15 8 6) 256) <|
        nm (pA S_15 8 2 (gI S_15 8 6).toNatClampNeg x2) fun S_17 =>
        nm (pI S_17 8 6 ((gI S_17 8 6) + (1 : Int32))) fun S_18 =>
        Bins_refresh_j94_l23 S_18 x2 x3_10))
    else (
      Bins_refresh_j94_l23 S x2 x3_10))
noncomputable def f_Bins_refresh (S : St) : Option St :=
  if (gI S 8 8) = 0 then (
    bd (f_Arrays_fill 8 0 S (0 : Int32)) fun S_3 =>
    nm (pI S_3 8 6 (0 : Int32)) fun S_4 =>
    bd (wh (un2 Bins_refresh_l23) (S_4, (0 : Int32))) fun S_23 =>
    bd (f_Book_toldOf 5 S_23 (2 : Int32)) fun v_26 =>
    bd (f_Lots_addSupersets 8 0 S_23 v_26) fun S_28 =>
    nm (pI S_28 8 8 (1 : Int32)) fun S_29 =>
    some S_29)
  else (
    some S)
noncomputable def Book_heightOf_j58_l17 (S : St) (x2 : Int32) (x3 : Int32) (x4 : Int32) : Option ((Int32 × Int32 × Int32) ⊕ Int32) :=
  nm (x4 + (-1 : Int32)) fun x4_11 =>
  some (.inl (x2, x3, x4_11))
noncomputable def Book_heightOf_l17 (S : St) (x2 : Int32) (x3 : Int32) (x4 : Int32) : Option ((Int32 × Int32 × Int32) ⊕ Int32) :=
  if x4 < 0 then (
    some (.inr x2))
  else (
    gd (inb x4 8) <|
    gd (inb x4 8) <|
    nm (((gA S 5 2 x4.toNatClampNeg) - (gA S 5 1 x4.toNatClampNeg)) + (1 : Int32)) fun x5_5 =>
    if x5_5 ≤ 0 then (
      Book_heightOf_j58_l17 S x2 x3 x4)
    else (
      gd (nz x5_5) <|
      nm (x2 + (x3 - x3 / x5_5 * x5_5)) fun x2_8 =>
      gd (nz x5_5) <|
      nm (x3 / x5_5) fun x3_10 =>
      Book_heightOf_j58_l17 S x2_8 x3_10 x4))
noncomputable def f_Book_heightOf (S : St) (x1 : Int32) : Option Int32 :=
  nm ((if (6 : Int32) < (gI S 5 10) then (6 : Int32) else (gI S 5 10)) - (1 : Int32)) fun x4_1 =>
  bd (wh (un3 (Book_heightOf_l17 S)) ((0 : Int32), x1, x4_1)) fun x2_12 =>
  some x2_12
noncomputable def Bins_noteHeight_j46_l3 (S : St) (x1 : Int32) (x2 : Int32) (x3 : Int32) (x4 : Int32) : Option ((St × Int32) ⊕ St) :=
  nm (x4 + (1 : Int32)) fun x4_9 =>
  some (.inl (S, x4_9))
noncomputable def Bins_noteHeight_l3 (x1 : Int32) (x2 : Int32) (x3 : Int32) (S : St) (x4 : Int32) : Option ((St × Int32) ⊕ St) :=
  if (8 : Int32) ≤ x4 then (
    some (.inr S))
  else (
    if ((x2 >>> (x4 &&& 31)) &&& (1 : Int32)) = 0 then (
      Bins_noteHeight_j46_l3 S x1 x2 x3 x4)
    else (
      gd (inb x4 8) <|
      if (gA S 8 3 x4.toNatClampNeg) ≤ x3 then (
        Bins_noteHeight_j46_l3 S x1 x2 x3 x4)
      else (
        gd (inb x4 8) <|
        nm (pA S 8 3 x4.toNatClampNeg x3) fun S_6 =>
        gd (inb x4 8) <|
        nm (pA S_6 8 4 x4.toNatClampNeg x1) fun S_8 =>
        Bins_noteHeight_j46_l3 S_8 x1 x2 x3 x4)))
noncomputable def f_Bins_noteHeight (S : St) (x1 : Int32) (x2 : Int32) (x3 : Int32) : Option St :=
  bd (wh (un2 (Bins_noteHeight_l3 x1 x2 x3)) (S, (0 : Int32))) fun S_10 =>
  some S_10
noncomputable def Bins_refreshLowest_j68_l27 (S : St) (x2 : Int32) : Option ((St × Int32) ⊕ St) :=
  nm (x2 + (1 : Int32)) fun x2_16 =>
  some (.inl (S, x2_16))
noncomputable def Bins_refreshLowest_l27 (S : St) (x2 : Int32) : Option ((St × Int32) ⊕ St) :=
  if (gI S 4 9) ≤ x2 then (
    some (.inr S))
  else (
    bd (f_Chart_inputOf S x2) fun v_8 =>
    bd (f_Chart_binsOf S v_8) fun v_10 =>
    if v_10 = 0 then (
      Bins_refreshLowest_j68_l27 S x2)
    else (
      bd (f_Book_heightOf S v_8) fun v_13 =>
      bd (f_Bins_noteHeight S x2 v_10 v_13) fun S_15 =>
      Bins_refreshLowest_j68_l27 S_15 x2))
noncomputable def f_Bins_refreshLowest (S : St) : Option St :=
  if (gI S 8 9) = 0 then (
    bd (f_Arrays_fill 8 3 S (1000000 : Int32)) fun S_3 =>
    bd (f_Arrays_fill 8 4 S_3 (-1 : Int32)) fun S_5 =>
    bd (wh (un2 Bins_refreshLowest_l27) (S_5, (0 : Int32))) fun S_17 =>
    nm (pI S_17 8 9 (1 : Int32)) fun S_19 =>
    some S_19)
  else (
    some S)
noncomputable def f_Bins_meetingAll (S : St) (x1 : Int32) : Option Int32 :=
  gd (inb (x1 &&& (255 : Int32)) 256) <|
  some (gA S 8 0 (x1 &&& (255 : Int32)).toNatClampNeg)
noncomputable def Bins_lowest_j23 (S : St) (t0 : Int32) : Option Int32 :=
  some t0
noncomputable def Bins_lowest_j22 (S : St) : Option Int32 :=
  Bins_lowest_j23 S (-1 : Int32)
noncomputable def f_Bins_lowest (S : St) (x1 : Int32) : Option Int32 :=
  if x1 < 0 then (
    Bins_lowest_j22 S)
  else (
    if (nI 8) ≤ x1 then (
      Bins_lowest_j22 S)
    else (
      gd (inb x1 8) <|
      Bins_lowest_j23 S (gA S 8 4 x1.toNatClampNeg)))
noncomputable def f_Integer_bitCount (x0 : Int32) : Option Int32 :=
  nm (x0 - ((x0.toUInt32 >>> ((1 : Int32).toUInt32 &&& Int32.toUInt32 31)).toInt32 &&& (1431655765 : Int32))) fun x0_1 =>
  nm ((x0_1 &&& (858993459 : Int32)) + ((x0_1.toUInt32 >>> ((2 : Int32).toUInt32 &&& Int32.toUInt32 31)).toInt32 &&& (858993459 : Int32))) fun x0_2 =>
  nm ((x0_2 + (x0_2.toUInt32 >>> ((4 : Int32).toUInt32 &&& Int32.toUInt32 31)).toInt32) &&& (252645135 : Int32)) fun x0_3 =>
  nm (x0_3 + (x0_3.toUInt32 >>> ((8 : Int32).toUInt32 &&& Int32.toUInt32 31)).toInt32) fun x0_4 =>
  nm (x0_4 + (x0_4.toUInt32 >>> ((16 : Int32).toUInt32 &&& Int32.toUInt32 31)).toInt32) fun x0_5 =>
  some (x0_5 &&& (63 : Int32))
noncomputable def Bins_meetingMost_j55_l7 (S : St) (x1 : Int32) (x2 : Int32) (x3 : Int32) (x4 : Int32) : Option ((Int32 × Int32 × Int32) ⊕ Int32) :=
  nm (x4 + (1 : Int32)) fun x4_9 =>
  some (.inl (x2, x3, x4_9))
noncomputable def Bins_meetingMost_l7 (S : St) (x1 : Int32) (x2 : Int32) (x3 : Int32) (x4 : Int32) : Option ((Int32 × Int32 × Int32) ⊕ Int32) :=
  if (gI S 8 6) ≤ x4 then (
    some (.inr x2))
  else (
    if (256 : Int32) ≤ x4 then (
      some (.inr x2))
    else (
      gd (inb x4 256) <|
      bd (f_Integer_bitCount ((gA S 8 1 x4.toNatClampNeg) &&& x1)) fun v_5 =>
      if v_5 ≤ x3 then (
        Bins_meetingMost_j55_l7 S x1 x2 x3 x4)
      else (
        gd (inb x4 256) <|
        nm (gA S 8 2 x4.toNatClampNeg) fun x2_8 =>
        Bins_meetingMost_j55_l7 S x1 x2_8 v_5 x4)))
noncomputable def Bins_meetingMost_j61 (S : St) (x2 : Int32) : Option Int32 :=
  some x2
noncomputable def f_Bins_meetingMost (S : St) (x1 : Int32) : Option Int32 :=
  bd (wh (un3 (Bins_meetingMost_l7 S x1)) ((-1 : Int32), (-1 : Int32), (0 : Int32))) fun x2_10 =>
  Bins_meetingMost_j61 S x2_10
noncomputable def Log_unmet_l4 (S : St) (x2 : Int32) (x3 : Int32) : Option ((Int32 × Int32) ⊕ Int32) :=
  if (gI S 7 1) ≤ x3 then (
    some (.inr x2))
  else (
    bd (f_Log_inputOf S x3) fun v_3 =>
    bd (f_Chart_binsOf S v_3) fun v_5 =>
    nm (x2 ||| v_5) fun x2_6 =>
    nm (x3 + (1 : Int32)) fun x3_7 =>
    some (.inl (x2_6, x3_7)))
noncomputable def f_Log_unmet (S : St) : Option Int32 :=
  bd (wh (un2 (Log_unmet_l4 S)) ((0 : Int32), (0 : Int32))) fun x2_8 =>
  some ((255 : Int32) &&& (x2_8 ^^^ (-1 : Int32)))
noncomputable def f_Integer_lowestOneBit (x0 : Int32) : Option Int32 :=
  some (x0 &&& (-x0))
noncomputable def Bins_fewestFor_j67_l11 (S : St) (x1 : Int32) (x2 : Int32) (x3 : Int32) (x4 : Int32) : Option ((Int32 × Int32) ⊕ Int32) :=
  nm (x4 + (1 : Int32)) fun x4_10 =>
  some (.inl (x3, x4_10))
noncomputable def Bins_fewestFor_l11 (S : St) (x1 : Int32) (x2 : Int32) (x3 : Int32) (x4 : Int32) : Option ((Int32 × Int32) ⊕ Int32) :=
  if (gI S 8 6) ≤ x4 then (
    some (.inr x3))
  else (
    if (256 : Int32) ≤ x4 then (
      some (.inr x3))
    else (
      gd (inb x4 256) <|
      if ((gA S 8 1 x4.toNatClampNeg) &&& x2) = 0 then (
        Bins_fewestFor_j67_l11 S x1 x2 x3 x4)
      else (
        gd (inb x4 256) <|
        gd (inb ((x1 &&& ((gA S 8 1 x4.toNatClampNeg) ^^^ (-1 : Int32))) &&& (255 : Int32)) 256) <|
        nm (if ((gA S 8 5 ((x1 &&& ((gA S 8 1 x4.toNatClampNeg) ^^^ (-1 : Int32))) &&& (255 : Int32)).toNatClampNeg) + (1 : Int32)) < x3 then ((gA S 8 5 ((x1 &&& ((gA S 8 1 x4.toNatClampNeg) ^^^ (-1 : Int32))) &&& (255 : Int32)).toNatClampNeg) + (1 : Int32)) else x3) fun x3_9 =>
        Bins_fewestFor_j67_l11 S x1 x2 x3_9 x4)))
noncomputable def Bins_fewestFor_j73 (S : St) (x3 : Int32) : Option Int32 :=
  some x3
noncomputable def f_Bins_fewestFor (S : St) (x1 : Int32) : Option Int32 :=
  bd (f_Integer_lowestOneBit x1) fun v_2 =>
  bd (wh (un2 (Bins_fewestFor_l11 S x1 v_2)) ((1000000 : Int32), (0 : Int32))) fun x3_11 =>
  Bins_fewestFor_j73 S x3_11
noncomputable def Bins_plan_j68_l22 (S : St) (x3 : Int32) (x4 : Int32) : Option ((St × Int32) ⊕ St) :=
  nm (x4 + (1 : Int32)) fun x4_13 =>
  some (.inl (S, x4_13))
noncomputable def Bins_plan_l22 (x3 : Int32) (S : St) (x4 : Int32) : Option ((St × Int32) ⊕ St) :=
  bd (f_Book_toldOf 5 S (2 : Int32)) fun v_6 =>
  if v_6 ≤ x4 then (
    some (.inr S))
  else (
    if ((x3 >>> (x4 &&& 31)) &&& (1 : Int32)) = 0 then (
      Bins_plan_j68_l22 S x3 x4)
    else (
      bd (f_Bins_meetingAll S ((1 : Int32) <<< (x4 &&& 31))) fun v_10 =>
      if v_10 ≤ 0 then (
        Bins_plan_j68_l22 S x3 x4)
      else (
        nm (pI S 8 7 ((gI S 8 7) ||| ((1 : Int32) <<< (x4 &&& 31)))) fun S_12 =>
        Bins_plan_j68_l22 S_12 x3 x4)))
noncomputable def Bins_plan_j126_l84 (S : St) (x4 : Int32) : Option ((St × Int32) ⊕ St) :=
  nm (x4 + (1 : Int32)) fun x4_25 =>
  some (.inl (S, x4_25))
noncomputable def Bins_plan_l84 (S : St) (x4 : Int32) : Option ((St × Int32) ⊕ St) :=
  if (gI S 8 7) < x4 then (
    some (.inr S))
  else (
    if (256 : Int32) ≤ x4 then (
      some (.inr S))
    else (
      if (x4 &&& ((gI S 8 7) ^^^ (-1 : Int32))) = 0 then (
        bd (f_Bins_fewestFor S x4) fun v_22 =>
        gd (inb x4 256) <|
        nm (pA S 8 5 x4.toNatClampNeg v_22) fun S_24 =>
        Bins_plan_j126_l84 S_24 x4)
      else (
        Bins_plan_j126_l84 S x4)))
noncomputable def Bins_plan_j132 (S : St) : Option St :=
  nm (pI S 8 10 (1 : Int32)) fun S_28 =>
  some S_28
noncomputable def f_Bins_plan (S : St) : Option St :=
  if (gI S 8 10) = 0 then (
    nm (pI S 8 7 (0 : Int32)) fun S_2 =>
    bd (f_Log_unmet S_2) fun v_4 =>
    bd (wh (un2 (Bins_plan_l22 v_4)) (S_2, (0 : Int32))) fun S_14 =>
    gd (inb (0 : Int32) 256) <|
    nm (pA S_14 8 5 (0 : Int32).toNatClampNeg (0 : Int32)) fun S_17 =>
    bd (wh (un2 Bins_plan_l84) (S_17, (1 : Int32))) fun S_26 =>
    Bins_plan_j132 S_26)
  else (
    some S)
noncomputable def f_Bins_planSize (S : St) : Option Int32 :=
  gd (inb ((gI S 8 7) &&& (255 : Int32)) 256) <|
  some (gA S 8 5 ((gI S 8 7) &&& (255 : Int32)).toNatClampNeg)
noncomputable def Bins_leastStep_j61_l15 (S : St) : Option (Int32 ⊕ Int32) :=
  some (.inr (0 : Int32))
noncomputable def Bins_leastStep_l15 (S : St) (x1 : Int32) (x2 : Int32) (x3 : Int32) : Option (Int32 ⊕ Int32) :=
  if (gI S 8 6) ≤ x3 then (
    Bins_leastStep_j61_l15 S)
  else (
    if (256 : Int32) ≤ x3 then (
      Bins_leastStep_j61_l15 S)
    else (
      gd (inb x3 256) <|
      gd (inb ((x1 &&& ((gA S 8 1 x3.toNatClampNeg) ^^^ (-1 : Int32))) &&& (255 : Int32)) 256) <|
      if (gA S 8 5 ((x1 &&& ((gA S 8 1 x3.toNatClampNeg) ^^^ (-1 : Int32))) &&& (255 : Int32)).toNatClampNeg) = x2 then (
        some (.inr x3))
      else (
        nm (x3 + (1 : Int32)) fun x3_8 =>
        some (.inl x3_8))))
noncomputable def f_Bins_leastStep (S : St) (x1 : Int32) : Option Int32 :=
  gd (inb (x1 &&& (255 : Int32)) 256) <|
  nm ((gA S 8 5 (x1 &&& (255 : Int32)).toNatClampNeg) - (1 : Int32)) fun x2_2 =>
  wh (Bins_leastStep_l15 S x1 x2_2) (0 : Int32)
noncomputable def Bins_planMember_l24 (S : St) (x1 : Int32) (x2 : Int32) (x3 : Int32) (x4 : Int32) : Option ((Int32 × Int32 × Int32) ⊕ Int32) :=
  if x1 < x4 then (
    some (.inr x3))
  else (
    if (8 : Int32) ≤ x4 then (
      some (.inr x3))
    else (
      bd (f_Bins_leastStep S x2) fun v_9 =>
      gd (inb v_9 256) <|
      nm (gA S 8 2 v_9.toNatClampNeg) fun x3_11 =>
      gd (inb v_9 256) <|
      nm (x2 &&& ((gA S 8 1 v_9.toNatClampNeg) ^^^ (-1 : Int32))) fun x2_13 =>
      nm (x4 + (1 : Int32)) fun x4_14 =>
      some (.inl (x2_13, x3_11, x4_14))))
noncomputable def Bins_planMember_j70 (S : St) (x3 : Int32) : Option Int32 :=
  some x3
noncomputable def Bins_planMember_j12 (S : St) : Option Int32 :=
  some (-1 : Int32)
noncomputable def f_Bins_planMember (S : St) (x1 : Int32) : Option Int32 :=
  if x1 < 0 then (
    Bins_planMember_j12 S)
  else (
    bd (f_Bins_planSize S) fun v_3 =>
    if x1 < v_3 then (
      nm (gI S 8 7) fun x2_5 =>
      bd (wh (un3 (Bins_planMember_l24 S x1)) (x2_5, (-1 : Int32), (0 : Int32))) fun x3_15 =>
      Bins_planMember_j70 S x3_15)
    else (
      Bins_planMember_j12 S))
noncomputable def Book_spell_l2 (b : Nat) (o1 : Nat) (k1 : Nat) (x1 : Int32) (S : St) (x3 : Int32) : Option ((St × Int32) ⊕ St) :=
  if (gI S b 10) ≤ x3 then (
    some (.inr S))
  else (
    if (nI (lenC S o1 k1)) ≤ x3 then (
      some (.inr S))
    else (
      bd (f_Book_valueIn S x1 x3) fun v_4 =>
      gd (inb x3 (lenC S o1 k1)) <|
      nm (pA S o1 k1 x3.toNatClampNeg v_4) fun S_6 =>
      nm (x3 + (1 : Int32)) fun x3_7 =>
      some (.inl (S_6, x3_7))))
noncomputable def Book_spell_j31 (b : Nat) (o1 : Nat) (k1 : Nat) (S : St) : Option St :=
  some S
noncomputable def f_Book_spell (b : Nat) (o1 : Nat) (k1 : Nat) (S : St) (x1 : Int32) : Option St :=
  bd (wh (un2 (Book_spell_l2 b o1 k1 x1)) (S, (0 : Int32))) fun S_8 =>
  Book_spell_j31 b o1 k1 S_8
noncomputable def Machine_run_j506_l55 (b : Nat) (o1 : Nat) (k1 : Nat) (o2 : Nat) (k2 : Nat) (S : St) (x6 : Int32) (x7 : Int32) (x8 : Int32) (x9 : Int32) : Option ((St × Int32 × Int32 × Int32) ⊕ (St × Int32)) :=
  nm (x9 + (1 : Int32)) fun x9_82 =>
  some (.inl (S, x7, x8, x9_82))
noncomputable def Machine_run_j500_l55 (b : Nat) (o1 : Nat) (k1 : Nat) (o2 : Nat) (k2 : Nat) (S : St) (x6 : Int32) (x7 : Int32) (x8 : Int32) (x9 : Int32) : Option ((St × Int32 × Int32 × Int32) ⊕ (St × Int32)) :=
  nm ((1 : Int32) - x8) fun x8_81 =>
  Machine_run_j506_l55 b o1 k1 o2 k2 S x6 x7 x8_81 x9
noncomputable def Machine_run_j453_l55 (b : Nat) (o1 : Nat) (k1 : Nat) (o2 : Nat) (k2 : Nat) (S : St) (x6 : Int32) (x7 : Int32) (x9 : Int32) (t0 : Int32) : Option ((St × Int32 × Int32 × Int32) ⊕ (St × Int32)) :=
  Machine_run_j506_l55 b o1 k1 o2 k2 S x6 x7 t0 x9
noncomputable def Machine_run_j425_l55 (b : Nat) (o1 : Nat) (k1 : Nat) (o2 : Nat) (k2 : Nat) (S : St) (x6 : Int32) (x7 : Int32) (x9 : Int32) (t0 : Int32) : Option ((St × Int32 × Int32 × Int32) ⊕ (St × Int32)) :=
  Machine_run_j506_l55 b o1 k1 o2 k2 S x6 x7 t0 x9
noncomputable def Machine_run_j397_l55 (b : Nat) (o1 : Nat) (k1 : Nat) (o2 : Nat) (k2 : Nat) (S : St) (x6 : Int32) (x7 : Int32) (x9 : Int32) (t0 : Int32) : Option ((St × Int32 × Int32 × Int32) ⊕ (St × Int32)) :=
  Machine_run_j506_l55 b o1 k1 o2 k2 S x6 x7 t0 x9
noncomputable def Machine_run_j369_l55 (b : Nat) (o1 : Nat) (k1 : Nat) (o2 : Nat) (k2 : Nat) (S : St) (x6 : Int32) (x7 : Int32) (x9 : Int32) (t0 : Int32) : Option ((St × Int32 × Int32 × Int32) ⊕ (St × Int32)) :=
  Machine_run_j506_l55 b o1 k1 o2 k2 S x6 x7 t0 x9
noncomputable def Machine_run_l55 (b : Nat) (o1 : Nat) (k1 : Nat) (o2 : Nat) (k2 : Nat) (x6 : Int32) (S : St) (x7 : Int32) (x8 : Int32) (x9 : Int32) : Option ((St × Int32 × Int32 × Int32) ⊕ (St × Int32)) :=
  if x9 < 0 then (
    some (.inr (S, x8)))
  else (
    if x6 ≤ x9 then (
      some (.inr (S, x8)))
    else (
      if (nI (lenC S 5 6)) ≤ x9 then (
        some (.inr (S, x8)))
      else (
        gd (inb x9 (lenC S 5 6)) <|
        nm (gA S 5 6 x9.toNatClampNeg) fun x10_13 =>
        nm (x10_13 &&& (31 : Int32)) fun v_14 =>
        if v_14 = (2 : Int32) then (
          nm (x7 + (1 : Int32)) fun x7_16 =>
          gd (inb (x7 &&& (63 : Int32)) (lenC S b 0)) <|
          nm (pA S b 0 (x7 &&& (63 : Int32)).toNatClampNeg x8) fun S_18 =>
          gd (inb ((x10_13 >>> ((5 : Int32) &&& 31)) &&& (7 : Int32)) (lenC S_18 o1 k1)) <|
          nm (gA S_18 o1 k1 ((x10_13 >>> ((5 : Int32) &&& 31)) &&& (7 : Int32)).toNatClampNeg) fun x8_20 =>
          Machine_run_j506_l55 b o1 k1 o2 k2 S_18 x6 x7_16 x8_20 x9)
        else
        if v_14 = (3 : Int32) then (
          nm (x7 + (1 : Int32)) fun x7_22 =>
          gd (inb (x7 &&& (63 : Int32)) (lenC S b 0)) <|
          nm (pA S b 0 (x7 &&& (63 : Int32)).toNatClampNeg x8) fun S_24 =>
          nm (x10_13 >>> ((5 : Int32) &&& 31)) fun x8_25 =>
          Machine_run_j506_l55 b o1 k1 o2 k2 S_24 x6 x7_22 x8_25 x9)
        else
        if v_14 = (4 : Int32) then (
          Machine_run_j500_l55 b o1 k1 o2 k2 S x6 x7 x8 x9)
        else
        if v_14 = (5 : Int32) then (
          nm (x7 + (-1 : Int32)) fun x7_28 =>
          gd (inb (x7_28 &&& (63 : Int32)) (lenC S b 0)) <|
          nm ((gA S b 0 (x7_28 &&& (63 : Int32)).toNatClampNeg) + x8) fun x8_30 =>
          Machine_run_j506_l55 b o1 k1 o2 k2 S x6 x7_28 x8_30 x9)
        else
        if v_14 = (6 : Int32) then (
          nm (x7 + (-1 : Int32)) fun x7_32 =>
          gd (inb (x7_32 &&& (63 : Int32)) (lenC S b 0)) <|
          nm ((gA S b 0 (x7_32 &&& (63 : Int32)).toNatClampNeg) - x8) fun x8_34 =>
          Machine_run_j506_l55 b o1 k1 o2 k2 S x6 x7_32 x8_34 x9)
        else
        if v_14 = (7 : Int32) then (
          nm (x7 + (-1 : Int32)) fun x7_36 =>
          gd (inb (x7_36 &&& (63 : Int32)) (lenC S b 0)) <|
          nm ((gA S b 0 (x7_36 &&& (63 : Int32)).toNatClampNeg) * x8) fun x8_38 =>
          Machine_run_j506_l55 b o1 k1 o2 k2 S x6 x7_36 x8_38 x9)
        else
        if v_14 = (8 : Int32) then (
          nm (x7 + (-1 : Int32)) fun x7_40 =>
          gd (inb (x7_40 &&& (63 : Int32)) (lenC S b 0)) <|
          if (gA S b 0 (x7_40 &&& (63 : Int32)).toNatClampNeg) = x8 then (
            Machine_run_j369_l55 b o1 k1 o2 k2 S x6 x7_40 x9 (1 : Int32))
          else (
            Machine_run_j369_l55 b o1 k1 o2 k2 S x6 x7_40 x9 (0 : Int32)))
        else
        if v_14 = (9 : Int32) then (
          nm (x7 + (-1 : Int32)) fun x7_44 =>
          gd (inb (x7_44 &&& (63 : Int32)) (lenC S b 0)) <|
          if (gA S b 0 (x7_44 &&& (63 : Int32)).toNatClampNeg) = x8 then (
            Machine_run_j397_l55 b o1 k1 o2 k2 S x6 x7_44 x9 (0 : Int32))
          else (
            Machine_run_j397_l55 b o1 k1 o2 k2 S x6 x7_44 x9 (1 : Int32)))
        else
        if v_14 = (10 : Int32) then (
          nm (x7 + (-1 : Int32)) fun x7_48 =>
          gd (inb (x7_48 &&& (63 : Int32)) (lenC S b 0)) <|
          if x8 ≤ (gA S b 0 (x7_48 &&& (63 : Int32)).toNatClampNeg) then (
            Machine_run_j425_l55 b o1 k1 o2 k2 S x6 x7_48 x9 (0 : Int32))
          else (
            Machine_run_j425_l55 b o1 k1 o2 k2 S x6 x7_48 x9 (1 : Int32)))
        else
        if v_14 = (11 : Int32) then (
          nm (x7 + (-1 : Int32)) fun x7_52 =>
          gd (inb (x7_52 &&& (63 : Int32)) (lenC S b 0)) <|
          if x8 < (gA S b 0 (x7_52 &&& (63 : Int32)).toNatClampNeg) then (
            Machine_run_j453_l55 b o1 k1 o2 k2 S x6 x7_52 x9 (0 : Int32))
          else (
            Machine_run_j453_l55 b o1 k1 o2 k2 S x6 x7_52 x9 (1 : Int32)))
        else
        if v_14 = (12 : Int32) then (
          Machine_run_j500_l55 b o1 k1 o2 k2 S x6 x7 x8 x9)
        else
        if v_14 = (13 : Int32) then (
          Machine_run_j500_l55 b o1 k1 o2 k2 S x6 x7 x8 x9)
        else
        if v_14 = (14 : Int32) then (
          Machine_run_j500_l55 b o1 k1 o2 k2 S x6 x7 x8 x9)
        else
        if v_14 = (15 : Int32) then (
          Machine_run_j500_l55 b o1 k1 o2 k2 S x6 x7 x8 x9)
        else
        if v_14 = (16 : Int32) then (
          Machine_run_j500_l55 b o1 k1 o2 k2 S x6 x7 x8 x9)
        else
        if v_14 = (17 : Int32) then (
          Machine_run_j500_l55 b o1 k1 o2 k2 S x6 x7 x8 x9)
        else
        if v_14 = (18 : Int32) then (
          Machine_run_j500_l55 b o1 k1 o2 k2 S x6 x7 x8 x9)
        else
        if v_14 = (19 : Int32) then (
          Machine_run_j500_l55 b o1 k1 o2 k2 S x6 x7 x8 x9)
        else
        if v_14 = (20 : Int32) then (
          Machine_run_j500_l55 b o1 k1 o2 k2 S x6 x7 x8 x9)
        else
        if v_14 = (21 : Int32) then (
          Machine_run_j500_l55 b o1 k1 o2 k2 S x6 x7 x8 x9)
        else
        if v_14 = (22 : Int32) then (
          Machine_run_j500_l55 b o1 k1 o2 k2 S x6 x7 x8 x9)
        else
        if v_14 = (23 : Int32) then (
          nm (x7 + (-1 : Int32)) fun x7_67 =>
          gd (inb (x7_67 &&& (63 : Int32)) (lenC S b 0)) <|
          nm ((gA S b 0 (x7_67 &&& (63 : Int32)).toNatClampNeg) ||| x8) fun x8_69 =>
          Machine_run_j506_l55 b o1 k1 o2 k2 S x6 x7_67 x8_69 x9)
        else
        if v_14 = (24 : Int32) then (
          nm (x7 + (-1 : Int32)) fun x7_71 =>
          gd (inb (x7_71 &&& (63 : Int32)) (lenC S b 0)) <|
          nm ((gA S b 0 (x7_71 &&& (63 : Int32)).toNatClampNeg) &&& x8) fun x8_73 =>
          Machine_run_j506_l55 b o1 k1 o2 k2 S x6 x7_71 x8_73 x9)
        else
        if v_14 = (25 : Int32) then (
          Machine_run_j500_l55 b o1 k1 o2 k2 S x6 x7 x8 x9)
        else
        if v_14 = (26 : Int32) then (
          nm (x7 + (1 : Int32)) fun x7_76 =>
          gd (inb (x7 &&& (63 : Int32)) (lenC S b 0)) <|
          nm (pA S b 0 (x7 &&& (63 : Int32)).toNatClampNeg x8) fun S_78 =>
          gd (inb ((x10_13 >>> ((5 : Int32) &&& 31)) &&& (7 : Int32)) (lenC S_78 o2 k2)) <|
          nm (gA S_78 o2 k2 ((x10_13 >>> ((5 : Int32) &&& 31)) &&& (7 : Int32)).toNatClampNeg) fun x8_80 =>
          Machine_run_j506_l55 b o1 k1 o2 k2 S_78 x6 x7_76 x8_80 x9)
        else
        (
          Machine_run_j500_l55 b o1 k1 o2 k2 S x6 x7 x8 x9))))
noncomputable def Machine_run_j512 (b : Nat) (o1 : Nat) (k1 : Nat) (o2 : Nat) (k2 : Nat) (S : St) (x8 : Int32) : Option (Int32 × St) :=
  some (x8, S)
noncomputable def Machine_run_j25 (b : Nat) (o1 : Nat) (k1 : Nat) (o2 : Nat) (k2 : Nat) (S : St) : Option (Int32 × St) :=
  some ((0 : Int32), S)
noncomputable def f_Machine_run (b : Nat) (o1 : Nat) (k1 : Nat) (o2 : Nat) (k2 : Nat) (S : St) (x2 : Int32) : Option (Int32 × St) :=
  if x2 < 0 then (
    Machine_run_j25 b o1 k1 o2 k2 S)
  else (
    if (48 : Int32) ≤ x2 then (
      Machine_run_j25 b o1 k1 o2 k2 S)
    else (
      if (nI (lenC S o1 k1)) = (8 : Int32) then (
        if (nI (lenC S o2 k2)) = (8 : Int32) then (
          gd (inb x2 (lenC S 5 8)) <|
          nm (gA S 5 8 x2.toNatClampNeg) fun x6_6 =>
          gd (inb x2 (lenC S 5 7)) <|
          nm (gA S 5 7 x2.toNatClampNeg) fun x9_8 =>
          bd2 (wh (un4 (Machine_run_l55 b o1 k1 o2 k2 x6_6)) (S, (0 : Int32), (0 : Int32), x9_8)) fun S_83 x8_84 =>
          Machine_run_j512 b o1 k1 o2 k2 S_83 x8_84)
        else (
          Machine_run_j25 b o1 k1 o2 k2 S))
      else (
        Machine_run_j25 b o1 k1 o2 k2 S)))
noncomputable def Chains_allNextsHold_l2 (S : St) (x2 : Int32) : Option ((St × Int32) ⊕ (Int32 × St)) :=
  bd (f_Book_toldOf 5 S (3 : Int32)) fun v_2 =>
  if v_2 ≤ x2 then (
    some (.inr ((1 : Int32), S)))
  else (
    bd2 (f_Machine_run 10 9 1 9 2 S ((24 : Int32) + x2)) fun v_5 S_6 =>
    if v_5 = 0 then (
      some (.inr ((0 : Int32), S_6)))
    else (
      nm (x2 + (1 : Int32)) fun x2_8 =>
      some (.inl (S_6, x2_8))))
noncomputable def f_Chains_allNextsHold (S : St) : Option (Int32 × St) :=
  wh (un2 Chains_allNextsHold_l2) (S, (0 : Int32))
noncomputable def Chains_followersOfOld_j49_l5 (S : St) (x2 : Int64) (x4 : Int32) : Option ((St × Int64 × Int32) ⊕ (St × Int64)) :=
  nm (x4 + (1 : Int32)) fun x4_11 =>
  some (.inl (S, x2, x4_11))
noncomputable def Chains_followersOfOld_l5 (S : St) (x2 : Int64) (x4 : Int32) : Option ((St × Int64 × Int32) ⊕ (St × Int64)) :=
  if (gI S 9 5) ≤ x4 then (
    some (.inr (S, x2)))
  else (
    bd (f_Chart_inputOf S x4) fun v_3 =>
    bd (f_Book_spell 5 9 1 S v_3) fun S_5 =>
    bd2 (f_Chains_allNextsHold S_5) fun v_7 S_8 =>
    if v_7 = 0 then (
      Chains_followersOfOld_j49_l5 S_8 x2 x4)
    else (
      nm (x2 ||| ((1 : Int64) <<< (x4.toInt64 &&& 63))) fun x2_10 =>
      Chains_followersOfOld_j49_l5 S_8 x2_10 x4))
noncomputable def f_Chains_followersOfOld (S : St) : Option (Int64 × St) :=
  bd2 (wh (un3 Chains_followersOfOld_l5) (S, (0 : Int64), (0 : Int32))) fun S_12 x2_13 =>
  some (x2_13, S_12)
noncomputable def f_Chains_indexOf (x0 : Int32) (x1 : Int32) : Option Int32 :=
  nm (((x0 - (1 : Int32)) * (64 : Int32)) + x1) fun x2_1 =>
  some (if (0 : Int32) < (if x2_1 < (639 : Int32) then x2_1 else (639 : Int32)) then (if x2_1 < (639 : Int32) then x2_1 else (639 : Int32)) else (0 : Int32))
noncomputable def Chains_waysOver_j42_l6 (S : St) (x1 : Int32) (x2 : Int64) (x4 : Int64) (x6 : Int32) : Option ((Int64 × Int32) ⊕ Int64) :=
  nm (x6 + (1 : Int32)) fun x6_7 =>
  some (.inl (x4, x6_7))
noncomputable def Chains_waysOver_l6 (S : St) (x1 : Int32) (x2 : Int64) (x4 : Int64) (x6 : Int32) : Option ((Int64 × Int32) ⊕ Int64) :=
  if (gI S 9 5) ≤ x6 then (
    some (.inr x4))
  else (
    if (lg_cmp ((x2 >>> (x6.toInt64 &&& 63)) &&& (1 : Int64)) (0 : Int64)) = 0 then (
      Chains_waysOver_j42_l6 S x1 x2 x4 x6)
    else (
      bd (f_Chains_indexOf x1 x6) fun v_4 =>
      gd (inb v_4 640) <|
      nm (x4 + (gB S 9 4 v_4.toNatClampNeg)) fun x4_6 =>
      Chains_waysOver_j42_l6 S x1 x2 x4_6 x6))
noncomputable def f_Chains_waysOver (S : St) (x1 : Int32) (x2 : Int64) : Option Int64 :=
  bd (wh (un2 (Chains_waysOver_l6 S x1 x2)) ((0 : Int64), (0 : Int32))) fun x4_8 =>
  some x4_8
noncomputable def Chains_refresh_l23 (S : St) (x2 : Int32) : Option ((St × Int32) ⊕ St) :=
  if (gI S 9 5) ≤ x2 then (
    some (.inr S))
  else (
    bd (f_Chart_inputOf S x2) fun v_5 =>
    bd (f_Book_spell 5 9 2 S v_5) fun S_7 =>
    bd2 (f_Chains_followersOfOld S_7) fun v_9 S_10 =>
    gd (inb x2 64) <|
    nm (pB S_10 9 3 x2.toNatClampNeg v_9) fun S_12 =>
    nm (x2 + (1 : Int32)) fun x2_13 =>
    some (.inl (S_12, x2_13)))
noncomputable def Chains_refresh_j113_l74 (S : St) (x2 : Int32) (x3 : Int32) (t1 : Int32) (t2 : Int64) : Option ((St × Int32) ⊕ St) :=
  gd (inb t1 640) <|
  nm (pB S 9 4 t1.toNatClampNeg t2) fun S_25 =>
  nm (x3 + (1 : Int32)) fun x3_26 =>
  some (.inl (S_25, x3_26))
noncomputable def Chains_refresh_l74 (x2 : Int32) (S : St) (x3 : Int32) : Option ((St × Int32) ⊕ St) :=
  if (gI S 9 5) ≤ x3 then (
    some (.inr S))
  else (
    bd (f_Chains_indexOf x2 x3) fun v_19 =>
    if x2 = (1 : Int32) then (
      Chains_refresh_j113_l74 S x2 x3 v_19 (1 : Int64))
    else (
      gd (inb x3 64) <|
      bd (f_Chains_waysOver S (x2 - (1 : Int32)) (gB S 9 3 x3.toNatClampNeg)) fun v_23 =>
      Chains_refresh_j113_l74 S x2 x3 v_19 v_23))
noncomputable def Chains_refresh_l66 (S : St) (x2 : Int32) : Option ((St × Int32) ⊕ St) :=
  if (10 : Int32) < x2 then (
    some (.inr S))
  else (
    bd (wh (un2 (Chains_refresh_l74 x2)) (S, (0 : Int32))) fun S_27 =>
    nm (x2 + (1 : Int32)) fun x2_29 =>
    some (.inl (S_27, x2_29)))
noncomputable def f_Chains_refresh (S : St) : Option St :=
  if (gI S 9 6) = 0 then (
    nm (pI S 9 5 (if (64 : Int32) < (gI S 4 9) then (64 : Int32) else (gI S 4 9))) fun S_2 =>
    bd (wh (un2 Chains_refresh_l23) (S_2, (0 : Int32))) fun S_14 =>
    bd (wh (un2 Chains_refresh_l66) (S_14, (1 : Int32))) fun S_30 =>
    nm (pI S_30 9 6 (1 : Int32)) fun S_32 =>
    some S_32)
  else (
    some S)
noncomputable def f_Chains_ofLength (S : St) (x1 : Int32) : Option Int64 :=
  bd (f_Chains_waysOver S x1 (-1 : Int64)) fun v_2 =>
  some v_2
noncomputable def Chains_member_j102_l33 (S : St) (x1 : Int32) (x4 : Int32) (x5 : Int64) (x7 : Int64) (x9 : Int32) (x10 : Int32) (x11 : Int32) : Option ((Int64 × Int32 × Int32) ⊕ (Int64 × Int32)) :=
  nm (x11 + (1 : Int32)) fun x11_11 =>
  some (.inl (x5, x9, x11_11))
noncomputable def Chains_member_j78_l33 (S : St) (x1 : Int32) (x4 : Int32) (x5 : Int64) (x7 : Int64) (x9 : Int32) (x10 : Int32) (x11 : Int32) (t0 : Int64) : Option ((Int64 × Int32 × Int32) ⊕ (Int64 × Int32)) :=
  if 0 ≤ (lg_cmp x5 t0) then (
    nm (x5 - t0) fun x5_10 =>
    Chains_member_j102_l33 S x1 x4 x5_10 x7 x9 x10 x11)
  else (
    Chains_member_j102_l33 S x1 x4 x5 x7 x11 x10 x11)
noncomputable def Chains_member_l33 (S : St) (x1 : Int32) (x4 : Int32) (x7 : Int64) (x10 : Int32) (x5 : Int64) (x9 : Int32) (x11 : Int32) : Option ((Int64 × Int32 × Int32) ⊕ (Int64 × Int32)) :=
  if (gI S 9 5) ≤ x11 then (
    some (.inr (x5, x9)))
  else (
    if x9 = (-1 : Int32) then (
      if (lg_cmp ((x7 >>> (x11.toInt64 &&& 63)) &&& (1 : Int64)) (0 : Int64)) = 0 then (
        Chains_member_j78_l33 S x1 x4 x5 x7 x9 x10 x11 (0 : Int64))
      else (
        bd (f_Chains_indexOf (x1 - x10) x11) fun v_7 =>
        gd (inb v_7 640) <|
        Chains_member_j78_l33 S x1 x4 x5 x7 x9 x10 x11 (gB S 9 4 v_7.toNatClampNeg)))
    else (
      some (.inr (x5, x9))))
noncomputable def Chains_member_j131_l14 (S : St) (x9 : Int32) : Option ((Int64 × Int64 × Int32 × Int32) ⊕ Int32) :=
  some (.inr x9)
noncomputable def Chains_member_j108_l14 (S : St) (x1 : Int32) (x4 : Int32) (x5 : Int64) (x9 : Int32) (x10 : Int32) : Option ((Int64 × Int64 × Int32 × Int32) ⊕ Int32) :=
  if x9 = (-1 : Int32) then (
    some (.inr (-1 : Int32)))
  else (
    gd (inb x9 64) <|
    nm (gB S 9 3 x9.toNatClampNeg) fun x7_17 =>
    nm (x10 + (1 : Int32)) fun x10_18 =>
    some (.inl (x5, x7_17, x9, x10_18)))
noncomputable def Chains_member_l14 (S : St) (x1 : Int32) (x4 : Int32) (x5 : Int64) (x7 : Int64) (x9 : Int32) (x10 : Int32) : Option ((Int64 × Int64 × Int32 × Int32) ⊕ Int32) :=
  if x4 < x10 then (
    Chains_member_j131_l14 S x9)
  else (
    if x1 ≤ x10 then (
      Chains_member_j131_l14 S x9)
    else (
      bd2 (wh (un3 (Chains_member_l33 S x1 x4 x7 x10)) (x5, (-1 : Int32), (0 : Int32))) fun x5_12 x9_13 =>
      Chains_member_j108_l14 S x1 x4 x5_12 x9_13 x10))
noncomputable def f_Chains_member (S : St) (x1 : Int32) (x2 : Int64) (x4 : Int32) : Option Int32 :=
  wh (un4 (Chains_member_l14 S x1 x4)) (x2, (-1 : Int64), (-1 : Int32), (0 : Int32))
noncomputable def Chart_roomFor_l3 (x0 : Int32) (x1 : Int32) : Option (Int32 ⊕ Int32) :=
  if (32768 : Int32) ≤ x1 then (
    some (.inr (32768 : Int32)))
  else (
    if x1 < x0 then (
      nm (x1 * (8 : Int32)) fun x1_3 =>
      some (.inl x1_3))
    else (
      some (.inr x1)))
noncomputable def f_Chart_roomFor (x0 : Int32) : Option Int32 :=
  wh (Chart_roomFor_l3 x0) (64 : Int32)
noncomputable def Book_spellFirst_l2 (S : St) (x2 : Int32) : Option ((St × Int32) ⊕ St) :=
  if (nI 8) ≤ x2 then (
    some (.inr S))
  else (
    if (nI 8) ≤ x2 then (
      some (.inr S))
    else (
      gd (inb x2 8) <|
      gd (inb x2 8) <|
      nm (pA S 4 1 x2.toNatClampNeg (gA S 5 1 x2.toNatClampNeg)) fun S_5 =>
      nm (x2 + (1 : Int32)) fun x2_6 =>
      some (.inl (S_5, x2_6))))
noncomputable def Book_spellFirst_j32 (S : St) : Option St :=
  some S
noncomputable def f_Book_spellFirst (S : St) : Option St :=
  bd (wh (un2 Book_spellFirst_l2) (S, (0 : Int32))) fun S_7 =>
  Book_spellFirst_j32 S_7
noncomputable def Book_advance_j59_l7 (S : St) : Option ((St × Int32) ⊕ (Int32 × St)) :=
  some (.inr ((-1 : Int32), S))
noncomputable def Book_advance_l7 (S : St) (x2 : Int32) : Option ((St × Int32) ⊕ (Int32 × St)) :=
  if x2 < 0 then (
    Book_advance_j59_l7 S)
  else (
    if (6 : Int32) ≤ x2 then (
      Book_advance_j59_l7 S)
    else (
      if (nI 8) ≤ x2 then (
        Book_advance_j59_l7 S)
      else (
        gd (inb x2 8) <|
        gd (inb x2 8) <|
        if (gA S 5 2 x2.toNatClampNeg) ≤ (gA S 4 1 x2.toNatClampNeg) then (
          gd (inb x2 8) <|
          gd (inb x2 8) <|
          nm (pA S 4 1 x2.toNatClampNeg (gA S 5 1 x2.toNatClampNeg)) fun S_10 =>
          nm (x2 + (-1 : Int32)) fun x2_11 =>
          some (.inl (S_10, x2_11)))
        else (
          gd (inb x2 8) <|
          gd (inb x2 8) <|
          nm (pA S 4 1 x2.toNatClampNeg ((gA S 4 1 x2.toNatClampNeg) + (1 : Int32))) fun S_14 =>
          some (.inr (x2, S_14))))))
noncomputable def f_Book_advance (S : St) : Option (Int32 × St) :=
  nm ((gI S 5 10) - (1 : Int32)) fun x2_1 =>
  wh (un2 Book_advance_l7) (S, x2_1)
noncomputable def Chart_mark_j159_l78 (S : St) (x2 : Int32) (x3 : Int32) (x4 : Int32) (x6 : Int32) (x7 : Int32) (x8 : Int32) (x9 : Int32) : Option ((St × Int32 × Int32) ⊕ (St × Int32)) :=
  nm (x9 + (1 : Int32)) fun x9_19 =>
  some (.inl (S, x6, x9_19))
noncomputable def Chart_mark_j157_l78 (S : St) (x2 : Int32) (x3 : Int32) (x4 : Int32) (x7 : Int32) (x8 : Int32) (x9 : Int32) (t0 : Int32) : Option ((St × Int32 × Int32) ⊕ (St × Int32)) :=
  Chart_mark_j159_l78 S x2 x3 x4 t0 x7 x8 x9
noncomputable def Chart_mark_j131_l78 (S : St) (x2 : Int32) (x3 : Int32) (x4 : Int32) (x6 : Int32) (x7 : Int32) (x8 : Int32) (x9 : Int32) (t0 : Int32) : Option ((St × Int32 × Int32) ⊕ (St × Int32)) :=
  if t0 = 0 then (
    Chart_mark_j157_l78 S x2 x3 x4 x7 x8 x9 (x6 &&& (((1 : Int32) <<< (x9 &&& 31)) ^^^ (-1 : Int32))))
  else (
    Chart_mark_j157_l78 S x2 x3 x4 x7 x8 x9 (x6 ||| ((1 : Int32) <<< (x9 &&& 31))))
noncomputable def Chart_mark_l78 (x2 : Int32) (x3 : Int32) (x4 : Int32) (x7 : Int32) (x8 : Int32) (S : St) (x6 : Int32) (x9 : Int32) : Option ((St × Int32 × Int32) ⊕ (St × Int32)) :=
  if x3 ≤ x9 then (
    some (.inr (S, x6)))
  else (
    if (nI 48) ≤ x9 then (
      some (.inr (S, x6)))
    else (
      gd (inb x9 48) <|
      if (gA S 5 9 x9.toNatClampNeg) < x7 then (
        Chart_mark_j159_l78 S x2 x3 x4 x6 x7 x8 x9)
      else (
        bd2 (f_Machine_run 6 4 1 4 1 S x9) fun v_15 S_16 =>
        if v_15 = 0 then (
          Chart_mark_j131_l78 S_16 x2 x3 x4 x6 x7 x8 x9 (0 : Int32))
        else (
          Chart_mark_j131_l78 S_16 x2 x3 x4 x6 x7 x8 x9 (1 : Int32)))))
noncomputable def Chart_mark_j165_l68 (S : St) (x2 : Int32) (x3 : Int32) (x4 : Int32) (x6 : Int32) (x8 : Int32) : Option ((St × Int32 × Int32 × Int32) ⊕ St) :=
  gd (inb x8 (gN S 4 5)) <|
  gd (inb x8 (gN S 4 5)) <|
  nm (pA S 4 5 x8.toNatClampNeg ((gA S 4 5 x8.toNatClampNeg) ||| x6)) fun S_25 =>
  bd2 (f_Book_advance S_25) fun v_27 S_28 =>
  nm (x8 + (1 : Int32)) fun x8_29 =>
  some (.inl (S_28, x6, v_27, x8_29))
noncomputable def Chart_mark_l68 (x2 : Int32) (x3 : Int32) (x4 : Int32) (S : St) (x6 : Int32) (x7 : Int32) (x8 : Int32) : Option ((St × Int32 × Int32 × Int32) ⊕ St) :=
  if x4 ≤ x8 then (
    some (.inr S))
  else (
    bd2 (wh (un3 (Chart_mark_l78 x2 x3 x4 x7 x8)) (S, x6, x2)) fun S_20 x6_21 =>
    Chart_mark_j165_l68 S_20 x2 x3 x4 x6_21 x8)
noncomputable def f_Chart_mark (S : St) (x1 : Int32) : Option St :=
  nm (x1 * (8 : Int32)) fun x2_1 =>
  bd (f_Book_toldOf 5 S x1) fun v_3 =>
  nm (x2_1 + v_3) fun x3_4 =>
  if x2_1 = x3_4 then (
    some S)
  else (
    nm (if (nI (gN S 4 5)) < (gI S 5 11) then (nI (gN S 4 5)) else (gI S 5 11)) fun x4_6 =>
    bd (f_Book_spellFirst S) fun S_8 =>
    bd (wh (un4 (Chart_mark_l68 x2_1 x3_4 x4_6)) (S_8, (0 : Int32), (-1 : Int32), (0 : Int32))) fun S_30 =>
    some S_30)
noncomputable def Chart_countStanding_l26 (x1 : Int32) (S : St) (x2 : Int32) : Option ((St × Int32) ⊕ St) :=
  if x1 ≤ x2 then (
    some (.inr S))
  else (
    gd (inb x2 (gN S 4 5)) <|
    gd (inb ((gA S 4 5 x2.toNatClampNeg) &&& (255 : Int32)) 256) <|
    gd (inb ((gA S 4 5 x2.toNatClampNeg) &&& (255 : Int32)) 256) <|
    nm (pA S 4 2 ((gA S 4 5 x2.toNatClampNeg) &&& (255 : Int32)).toNatClampNeg ((gA S 4 2 ((gA S 4 5 x2.toNatClampNeg) &&& (255 : Int32)).toNatClampNeg) + (1 : Int32))) fun S_8 =>
    nm (x2 + (1 : Int32)) fun x2_9 =>
    some (.inl (S_8, x2_9)))
noncomputable def f_Chart_countStanding (S : St) : Option St :=
  bd (f_Arrays_fill 4 2 S (0 : Int32)) fun S_2 =>
  nm (if (nI (gN S_2 4 5)) < (gI S_2 5 11) then (nI (gN S_2 4 5)) else (gI S_2 5 11)) fun x1_3 =>
  bd (wh (un2 (Chart_countStanding_l26 x1_3)) (S_2, (0 : Int32))) fun S_10 =>
  bd (f_Book_toldOf 5 S_10 (0 : Int32)) fun v_13 =>
  bd (f_Lots_addSupersets 4 2 S_10 v_13) fun S_15 =>
  some S_15
noncomputable def Chart_gather_j101_l39 (S : St) (x1 : Int32) (x2 : Int32) : Option ((St × Int32) ⊕ St) :=
  nm (x2 + (1 : Int32)) fun x2_14 =>
  some (.inl (S, x2_14))
noncomputable def Chart_gather_l39 (x1 : Int32) (S : St) (x2 : Int32) : Option ((St × Int32) ⊕ St) :=
  if x1 ≤ x2 then (
    some (.inr S))
  else (
    gd (inb x2 (gN S 4 5)) <|
    if ((gA S 4 5 x2.toNatClampNeg) &&& (gI S 4 12)) = (gI S 4 12) then (
      gd (inb (gI S 4 9) (gN S 4 7)) <|
      nm (pA S 4 7 (gI S 4 9).toNatClampNeg x2) fun S_9 =>
      nm (pI S_9 4 9 ((gI S_9 4 9) + (1 : Int32))) fun S_10 =>
      gd (inb x2 (gN S_10 4 5)) <|
      gd (inb (((gA S_10 4 5 x2.toNatClampNeg) >>> ((8 : Int32) &&& 31)) &&& (255 : Int32)) 256) <|
      nm (pA S_10 4 3 (((gA S_10 4 5 x2.toNatClampNeg) >>> ((8 : Int32) &&& 31)) &&& (255 : Int32)).toNatClampNeg (1 : Int32)) fun S_13 =>
      Chart_gather_j101_l39 S_13 x1 x2)
    else (
      Chart_gather_j101_l39 S x1 x2))
noncomputable def f_Chart_gather (S : St) : Option St :=
  nm (if (if (nI (gN S 4 7)) < (nI (gN S 4 5)) then (nI (gN S 4 7)) else (nI (gN S 4 5))) < (gI S 5 11) then (if (nI (gN S 4 7)) < (nI (gN S 4 5)) then (nI (gN S 4 7)) else (nI (gN S 4 5))) else (gI S 5 11)) fun x1_1 =>
  nm (pI S 4 9 (0 : Int32)) fun S_2 =>
  bd (f_Arrays_fill 4 3 S_2 (0 : Int32)) fun S_4 =>
  bd (wh (un2 (Chart_gather_l39 x1_1)) (S_4, (0 : Int32))) fun S_15 =>
  some S_15
noncomputable def Chart_heaviest_j70_l7 (S : St) (x1 : Int32) (x2 : Int32) (x3 : Int32) (x4 : Int32) : Option ((Int32 × Int32 × Int32) ⊕ Int32) :=
  nm (x4 + (1 : Int32)) fun x4_10 =>
  some (.inl (x2, x3, x4_10))
noncomputable def Chart_heaviest_l7 (S : St) (x1 : Int32) (x2 : Int32) (x3 : Int32) (x4 : Int32) : Option ((Int32 × Int32 × Int32) ⊕ Int32) :=
  bd (f_Book_toldOf 5 S (1 : Int32)) fun v_2 =>
  if v_2 ≤ x4 then (
    some (.inr x2))
  else (
    if (nI 8) ≤ x4 then (
      some (.inr x2))
    else (
      if ((x1 >>> (x4 &&& 31)) &&& (1 : Int32)) = 0 then (
        gd (inb x4 8) <|
        if (gA S 5 5 x4.toNatClampNeg) ≤ x3 then (
          Chart_heaviest_j70_l7 S x1 x2 x3 x4)
        else (
          gd (inb x4 8) <|
          nm (gA S 5 5 x4.toNatClampNeg) fun x3_9 =>
          Chart_heaviest_j70_l7 S x1 x4 x3_9 x4))
      else (
        Chart_heaviest_j70_l7 S x1 x2 x3 x4)))
noncomputable def Chart_heaviest_j76 (S : St) (x2 : Int32) : Option Int32 :=
  some x2
noncomputable def f_Chart_heaviest (S : St) (x1 : Int32) : Option Int32 :=
  bd (wh (un3 (Chart_heaviest_l7 S x1)) ((0 : Int32), (-1 : Int32), (0 : Int32))) fun x2_11 =>
  Chart_heaviest_j76 S x2_11
noncomputable def Chart_canKeep_j27_l2 (S : St) (x1 : Int32) (x2 : Int32) : Option (Int32 ⊕ Int32) :=
  nm (x2 + (1 : Int32)) fun x2_5 =>
  some (.inl x2_5)
noncomputable def Chart_canKeep_l2 (S : St) (x1 : Int32) (x2 : Int32) : Option (Int32 ⊕ Int32) :=
  if (256 : Int32) ≤ x2 then (
    some (.inr (0 : Int32)))
  else (
    if (x2 &&& x1) = x1 then (
      gd (inb x2 256) <|
      if (gA S 4 3 x2.toNatClampNeg) = 0 then (
        Chart_canKeep_j27_l2 S x1 x2)
      else (
        some (.inr (1 : Int32))))
    else (
      Chart_canKeep_j27_l2 S x1 x2))
noncomputable def f_Chart_canKeep (S : St) (x1 : Int32) : Option Int32 :=
  wh (Chart_canKeep_l2 S x1) (0 : Int32)
noncomputable def Chart_keepSoft_j56_l9 (S : St) (x1 : Int32) (x2 : Int32) : Option ((St × Int32 × Int32) ⊕ St) :=
  nm (x2 + (1 : Int32)) fun x2_13 =>
  some (.inl (S, x1, x2_13))
noncomputable def Chart_keepSoft_l9 (S : St) (x1 : Int32) (x2 : Int32) : Option ((St × Int32 × Int32) ⊕ St) :=
  bd (f_Book_toldOf 5 S (1 : Int32)) fun v_3 =>
  if v_3 ≤ x2 then (
    some (.inr S))
  else (
    bd (f_Chart_heaviest S x1) fun v_6 =>
    nm ((1 : Int32) <<< (v_6 &&& 31)) fun x3_7 =>
    nm (x1 ||| x3_7) fun x1_8 =>
    bd (f_Chart_canKeep S ((gI S 4 10) ||| x3_7)) fun v_10 =>
    if v_10 = 0 then (
      Chart_keepSoft_j56_l9 S x1_8 x2)
    else (
      nm (pI S 4 10 ((gI S 4 10) ||| x3_7)) fun S_12 =>
      Chart_keepSoft_j56_l9 S_12 x1_8 x2))
noncomputable def f_Chart_keepSoft (S : St) : Option St :=
  nm (pI S 4 10 (0 : Int32)) fun S_1 =>
  bd (wh (un3 Chart_keepSoft_l9) (S_1, (0 : Int32), (0 : Int32))) fun S_14 =>
  some S_14
noncomputable def Chart_narrow_j60_l12 (S : St) (x1 : Int32) (x2 : Int32) (x3 : Int32) : Option ((St × Int32 × Int32) ⊕ (St × Int32)) :=
  nm (x3 + (1 : Int32)) fun x3_12 =>
  some (.inl (S, x2, x3_12))
noncomputable def Chart_narrow_l12 (x1 : Int32) (S : St) (x2 : Int32) (x3 : Int32) : Option ((St × Int32 × Int32) ⊕ (St × Int32)) :=
  if (gI S 4 9) ≤ x3 then (
    some (.inr (S, x2)))
  else (
    if (nI (gN S 4 7)) ≤ x3 then (
      some (.inr (S, x2)))
    else (
      gd (inb x3 (gN S 4 7)) <|
      nm (gA S 4 7 x3.toNatClampNeg) fun x4_5 =>
      bd (f_Chart_marksOf S x4_5) fun v_7 =>
      if (v_7 &&& x1) = x1 then (
        gd (inb x2 (gN S 4 7)) <|
        nm (pA S 4 7 x2.toNatClampNeg x4_5) fun S_10 =>
        nm (x2 + (1 : Int32)) fun x2_11 =>
        Chart_narrow_j60_l12 S_10 x1 x2_11 x3)
      else (
        Chart_narrow_j60_l12 S x1 x2 x3)))
noncomputable def Chart_narrow_j66 (S : St) (x2 : Int32) : Option St :=
  nm (pI S 4 9 x2) fun S_16 =>
  some S_16
noncomputable def f_Chart_narrow (S : St) : Option St :=
  nm ((gI S 4 10) <<< ((8 : Int32) &&& 31)) fun x1_1 =>
  bd2 (wh (un3 (Chart_narrow_l12 x1_1)) (S, (0 : Int32), (0 : Int32))) fun S_13 x2_14 =>
  Chart_narrow_j66 S_13 x2_14
noncomputable def Chart_isLawful_j29 (S : St) (t0 : Int32) : Option Int32 :=
  gd (isB t0) <|
  some t0
noncomputable def f_Chart_isLawful (S : St) (x1 : Int32) : Option Int32 :=
  nm ((gI S 4 12) ||| ((gI S 4 10) <<< ((8 : Int32) &&& 31))) fun x2_1 =>
  bd (f_Chart_marksOf S x1) fun v_3 =>
  if (v_3 &&& x2_1) = x2_1 then (
    Chart_isLawful_j29 S (1 : Int32))
  else (
    Chart_isLawful_j29 S (0 : Int32))
noncomputable def Book_reachOf_j20 (S : St) (t0 : Int32) : Option Int32 :=
  some t0
noncomputable def Book_reachOf_j19 (S : St) : Option Int32 :=
  Book_reachOf_j20 S (-1 : Int32)
noncomputable def f_Book_reachOf (S : St) (x1 : Int32) : Option Int32 :=
  if x1 < 0 then (
    Book_reachOf_j19 S)
  else (
    if (48 : Int32) ≤ x1 then (
      Book_reachOf_j19 S)
    else (
      gd (inb x1 48) <|
      Book_reachOf_j20 S (gA S 5 9 x1.toNatClampNeg)))
noncomputable def Chart_reachOfShares_l4 (S : St) (x1 : Int32) (x2 : Int32) : Option ((Int32 × Int32) ⊕ Int32) :=
  bd (f_Book_toldOf 5 S (4 : Int32)) fun v_2 =>
  if v_2 ≤ x2 then (
    some (.inr x1))
  else (
    bd (f_Book_reachOf S ((32 : Int32) + x2)) fun v_5 =>
    nm (if x1 < v_5 then v_5 else x1) fun x1_6 =>
    bd (f_Book_reachOf S ((40 : Int32) + x2)) fun v_8 =>
    nm (if x1_6 < v_8 then v_8 else x1_6) fun x1_9 =>
    nm (x2 + (1 : Int32)) fun x2_10 =>
    some (.inl (x1_9, x2_10)))
noncomputable def f_Chart_reachOfShares (S : St) : Option Int32 :=
  bd (wh (un2 (Chart_reachOfShares_l4 S)) ((-1 : Int32), (0 : Int32))) fun x1_11 =>
  some x1_11
noncomputable def Book_isEmpty_j30 (S : St) (t0 : Int32) : Option Int32 :=
  gd (isB t0) <|
  some t0
noncomputable def Book_isEmpty_j25 (S : St) : Option Int32 :=
  Book_isEmpty_j30 S (1 : Int32)
noncomputable def f_Book_isEmpty (S : St) (x1 : Int32) : Option Int32 :=
  if x1 < 0 then (
    Book_isEmpty_j25 S)
  else (
    if (48 : Int32) ≤ x1 then (
      Book_isEmpty_j25 S)
    else (
      gd (inb x1 48) <|
      gd (inb x1 48) <|
      if (gA S 5 7 x1.toNatClampNeg) = (gA S 5 8 x1.toNatClampNeg) then (
        Book_isEmpty_j25 S)
      else (
        Book_isEmpty_j30 S (0 : Int32))))
noncomputable def Chart_shareNow_j53_l2 (S : St) (x1 : Int32) : Option ((St × Int32) ⊕ (Int32 × St)) :=
  bd2 (f_Machine_run 6 4 1 4 1 S ((32 : Int32) + x1)) fun v_14 S_15 =>
  some (.inr ((if (0 : Int32) < (if v_14 < (1000 : Int32) then v_14 else (1000 : Int32)) then (if v_14 < (1000 : Int32) then v_14 else (1000 : Int32)) else (0 : Int32)), S_15))
noncomputable def Chart_shareNow_l2 (S : St) (x1 : Int32) : Option ((St × Int32) ⊕ (Int32 × St)) :=
  bd (f_Book_toldOf 5 S (4 : Int32)) fun v_2 =>
  if v_2 ≤ x1 then (
    some (.inr ((1 : Int32), S)))
  else (
    nm ((40 : Int32) + x1) fun x2_4 =>
    bd (f_Book_isEmpty S x2_4) fun v_6 =>
    if v_6 = 0 then (
      bd2 (f_Machine_run 6 4 1 4 1 S x2_4) fun v_9 S_10 =>
      if v_9 = 0 then (
        nm (x1 + (1 : Int32)) fun x1_12 =>
        some (.inl (S_10, x1_12)))
      else (
        Chart_shareNow_j53_l2 S_10 x1))
    else (
      Chart_shareNow_j53_l2 S x1))
noncomputable def f_Chart_shareNow (S : St) : Option (Int32 × St) :=
  wh (un2 Chart_shareNow_l2) (S, (0 : Int32))
noncomputable def Chart_shareOf_j29 (S : St) (t0 : Int32) : Option Int32 :=
  some t0
noncomputable def Chart_shareOf_j28 (S : St) : Option Int32 :=
  Chart_shareOf_j29 S (0 : Int32)
noncomputable def f_Chart_shareOf (S : St) (x1 : Int32) : Option Int32 :=
  bd (f_Chart_inputOf S x1) fun v_2 =>
  if v_2 < 0 then (
    Chart_shareOf_j28 S)
  else (
    if (nI (gN S 4 6)) ≤ v_2 then (
      Chart_shareOf_j28 S)
    else (
      gd (inb v_2 (gN S 4 6)) <|
      Chart_shareOf_j29 S (gA S 4 6 v_2.toNatClampNeg)))
noncomputable def Chart_addShares_j52_l7 (S : St) (x1 : Int32) : Option ((St × Int32) ⊕ St) :=
  nm (x1 + (1 : Int32)) fun x1_11 =>
  some (.inl (S, x1_11))
noncomputable def Chart_addShares_l7 (S : St) (x1 : Int32) : Option ((St × Int32) ⊕ St) :=
  if (gI S 4 9) ≤ x1 then (
    some (.inr S))
  else (
    bd (f_Chart_shareOf S x1) fun v_4 =>
    nm (pI S 4 11 ((gI S 4 11) + v_4)) fun S_5 =>
    gd (nz (64 : Int32)) <|
    if (512 : Int32) ≤ (x1 / (64 : Int32)) then (
      Chart_addShares_j52_l7 S_5 x1)
    else (
      gd (nz (64 : Int32)) <|
      gd (inb (x1 / (64 : Int32)) 512) <|
      nm (pA S_5 4 4 (x1 / (64 : Int32)).toNatClampNeg (gI S_5 4 11)) fun S_10 =>
      Chart_addShares_j52_l7 S_10 x1))
noncomputable def f_Chart_addShares (S : St) : Option St :=
  nm (pI S 4 11 (0 : Int32)) fun S_1 =>
  bd (wh (un2 Chart_addShares_l7) (S_1, (0 : Int32))) fun S_12 =>
  some S_12
noncomputable def Chart_drawnBy_l16 (S : St) (x1 : Int32) (x2 : Int32) : Option (Int32 ⊕ Int32) :=
  if (511 : Int32) ≤ x2 then (
    some (.inr x2))
  else (
    gd (inb x2 512) <|
    if x1 < (gA S 4 4 x2.toNatClampNeg) then (
      some (.inr x2))
    else (
      nm (x2 + (1 : Int32)) fun x2_6 =>
      some (.inl x2_6)))
noncomputable def Chart_drawnBy_l64 (S : St) (x3 : Int32) (x4 : Int32) : Option ((Int32 × Int32) ⊕ Int32) :=
  if (gI S 4 9) ≤ x4 then (
    some (.inr (-1 : Int32)))
  else (
    bd (f_Chart_shareOf S x4) fun v_14 =>
    nm (x3 - v_14) fun x3_15 =>
    if 0 ≤ x3_15 then (
      nm (x4 + (1 : Int32)) fun x4_17 =>
      some (.inl (x3_15, x4_17)))
    else (
      some (.inr x4)))
noncomputable def Chart_drawnBy_j57 (S : St) (x2 : Int32) (t0 : Int32) : Option Int32 :=
  nm (x2 * (64 : Int32)) fun x4_11 =>
  wh (un2 (Chart_drawnBy_l64 S)) (t0, x4_11)
noncomputable def Chart_drawnBy_j39 (S : St) (x1 : Int32) (x2 : Int32) : Option Int32 :=
  if x2 ≤ 0 then (
    Chart_drawnBy_j57 S x2 x1)
  else (
    gd (inb (x2 - (1 : Int32)) 512) <|
    Chart_drawnBy_j57 S x2 (x1 - (gA S 4 4 (x2 - (1 : Int32)).toNatClampNeg)))
noncomputable def Chart_drawnBy_j12 (S : St) : Option Int32 :=
  some (-1 : Int32)
noncomputable def f_Chart_drawnBy (S : St) (x1 : Int32) : Option Int32 :=
  if x1 < 0 then (
    Chart_drawnBy_j12 S)
  else (
    if x1 < (gI S 4 11) then (
      bd (wh (Chart_drawnBy_l16 S x1) (0 : Int32)) fun x2_7 =>
      Chart_drawnBy_j39 S x1 x2_7)
    else (
      Chart_drawnBy_j12 S))
noncomputable def f_Chart_refusedByAlone (S : St) (x1 : Int32) : Option Int32 :=
  gd (inb (((gI S 4 12) &&& (((1 : Int32) <<< (x1 &&& 31)) ^^^ (-1 : Int32))) &&& (255 : Int32)) 256) <|
  gd (inb ((gI S 4 12) &&& (255 : Int32)) 256) <|
  some ((gA S 4 2 (((gI S 4 12) &&& (((1 : Int32) <<< (x1 &&& 31)) ^^^ (-1 : Int32))) &&& (255 : Int32)).toNatClampNeg) - (gA S 4 2 ((gI S 4 12) &&& (255 : Int32)).toNatClampNeg))
noncomputable def Chart_isAhead_j34 (t0 : Int32) : Option Int32 :=
  gd (isB t0) <|
  some t0
noncomputable def Chart_isAhead_j33 : Option Int32 :=
  Chart_isAhead_j34 (0 : Int32)
noncomputable def Chart_isAhead_j29 : Option Int32 :=
  Chart_isAhead_j34 (1 : Int32)
noncomputable def f_Chart_isAhead (x0 : Int32) (x1 : Int32) : Option Int32 :=
  bd (f_Integer_bitCount x0) fun v_2 =>
  bd (f_Integer_bitCount x1) fun v_4 =>
  nm (v_2 - v_4) fun x2_5 =>
  if x2_5 < 0 then (
    Chart_isAhead_j29)
  else (
    if x2_5 = 0 then (
      bd (f_Integer_lowestOneBit (x0 ^^^ x1)) fun v_9 =>
      if (x0 &&& v_9) = 0 then (
        Chart_isAhead_j33)
      else (
        Chart_isAhead_j29))
    else (
      Chart_isAhead_j33))
noncomputable def Chart_smallestQuarrel_j62_l25 (S : St) (x1 : Int32) (x2 : Int32) : Option ((Int32 × Int32) ⊕ Int32) :=
  nm (x2 + (1 : Int32)) fun x2_11 =>
  some (.inl (x1, x2_11))
noncomputable def Chart_smallestQuarrel_l25 (S : St) (x1 : Int32) (x2 : Int32) : Option ((Int32 × Int32) ⊕ Int32) :=
  if (256 : Int32) ≤ x2 then (
    some (.inr x1))
  else (
    if (x2 &&& ((gI S 4 12) ^^^ (-1 : Int32))) = 0 then (
      gd (inb x2 256) <|
      if (gA S 4 2 x2.toNatClampNeg) = 0 then (
        bd (f_Chart_isAhead x2 x1) fun v_9 =>
        if v_9 = 0 then (
          Chart_smallestQuarrel_j62_l25 S x1 x2)
        else (
          Chart_smallestQuarrel_j62_l25 S x2 x2))
      else (
        Chart_smallestQuarrel_j62_l25 S x1 x2))
    else (
      Chart_smallestQuarrel_j62_l25 S x1 x2))
noncomputable def f_Chart_smallestQuarrel (S : St) : Option Int32 :=
  gd (inb ((gI S 4 12) &&& (255 : Int32)) 256) <|
  if (gA S 4 2 ((gI S 4 12) &&& (255 : Int32)).toNatClampNeg) ≤ 0 then (
    nm (gI S 4 12) fun x1_3 =>
    bd (wh (un2 (Chart_smallestQuarrel_l25 S)) (x1_3, (1 : Int32))) fun x1_12 =>
    some x1_12)
  else (
    some (-1 : Int32))
noncomputable def Log_add_j32 (S : St) : Option St :=
  some S
noncomputable def f_Log_add (S : St) (x1 : Int32) : Option St :=
  if (nI 200) ≤ (gI S 7 1) then (
    Log_add_j32 S)
  else (
    gd (inb (gI S 7 1) 200) <|
    nm (pA S 7 0 (gI S 7 1).toNatClampNeg x1) fun S_3 =>
    nm (pI S_3 7 1 ((gI S_3 7 1) + (1 : Int32))) fun S_4 =>
    Log_add_j32 S_4)
noncomputable def Log_meeting_l5 (S : St) (x2 : Int32) (x3 : Int32) (x4 : Int32) : Option ((Int32 × Int32) ⊕ Int32) :=
  if (gI S 7 1) ≤ x4 then (
    some (.inr x3))
  else (
    bd (f_Log_inputOf S x4) fun v_3 =>
    bd (f_Chart_binsOf S v_3) fun v_5 =>
    nm (x3 + ((v_5 >>> (x2 &&& 31)) &&& (1 : Int32))) fun x3_6 =>
    nm (x4 + (1 : Int32)) fun x4_7 =>
    some (.inl (x3_6, x4_7)))
noncomputable def f_Log_meeting (S : St) (x2 : Int32) : Option Int32 :=
  bd (wh (un2 (Log_meeting_l5 S x2)) ((0 : Int32), (0 : Int32))) fun x3_8 =>
  some x3_8
noncomputable def Log_unlawful_j48_l5 (S : St) : Option ((Int32 × Int32) ⊕ Int32) :=
  some (.inr (-1 : Int32))
noncomputable def Log_unlawful_j42_l5 (S : St) (x2 : Int32) (x3 : Int32) (x4 : Int32) : Option ((Int32 × Int32) ⊕ Int32) :=
  nm (x4 + (1 : Int32)) fun x4_10 =>
  some (.inl (x3, x4_10))
noncomputable def Log_unlawful_l5 (S : St) (x2 : Int32) (x3 : Int32) (x4 : Int32) : Option ((Int32 × Int32) ⊕ Int32) :=
  if (gI S 7 1) ≤ x4 then (
    Log_unlawful_j48_l5 S)
  else (
    if x2 < 0 then (
      Log_unlawful_j48_l5 S)
    else (
      bd (f_Log_inputOf S x4) fun v_4 =>
      bd (f_Chart_isLawful S v_4) fun v_6 =>
      if v_6 = 0 then (
        if x3 = x2 then (
          some (.inr x4))
        else (
          nm (x3 + (1 : Int32)) fun x3_9 =>
          Log_unlawful_j42_l5 S x2 x3_9 x4))
      else (
        Log_unlawful_j42_l5 S x2 x3 x4)))
noncomputable def f_Log_unlawful (S : St) (x2 : Int32) : Option Int32 :=
  wh (un2 (Log_unlawful_l5 S x2)) ((0 : Int32), (0 : Int32))
noncomputable def f_Reader_refuse (S : St) (x1 : Int32) : Option St :=
  nm (pI S 1 4 x1) fun S_1 =>
  nm (pI S_1 1 3 (gI S_1 2 4)) fun S_2 =>
  some S_2
noncomputable def Reader_blame_j51 (S : St) : Option St :=
  some S
noncomputable def Reader_blame_j41 (S : St) (x1 : Int32) (x2 : Int32) : Option St :=
  nm (pI S 1 5 x1) fun S_6 =>
  nm (pI S_6 1 6 x2) fun S_7 =>
  Reader_blame_j51 S_7
noncomputable def Reader_blame_j29 (S : St) (x1 : Int32) (x2 : Int32) (t0 : Int32) : Option St :=
  if (gI S 1 5) = 0 then (
    Reader_blame_j41 S x1 x2)
  else (
    if t0 = 0 then (
      Reader_blame_j51 S)
    else (
      Reader_blame_j41 S x1 x2))
noncomputable def Reader_blame_j28 (S : St) (x1 : Int32) (x2 : Int32) : Option St :=
  Reader_blame_j29 S x1 x2 (0 : Int32)
noncomputable def Reader_blame_j24 (S : St) (x1 : Int32) (x2 : Int32) : Option St :=
  Reader_blame_j29 S x1 x2 (1 : Int32)
noncomputable def f_Reader_blame (S : St) (x1 : Int32) (x2 : Int32) : Option St :=
  if x2 < (gI S 1 6) then (
    Reader_blame_j24 S x1 x2)
  else (
    if x2 = (gI S 1 6) then (
      if (gI S 1 5) ≤ x1 then (
        Reader_blame_j28 S x1 x2)
      else (
        Reader_blame_j24 S x1 x2))
    else (
      Reader_blame_j28 S x1 x2))
noncomputable def Book_open_j37 (S : St) : Option St :=
  some S
noncomputable def f_Book_open (S : St) (x1 : Int32) : Option St :=
  if x1 < 0 then (
    Book_open_j37 S)
  else (
    if (48 : Int32) ≤ x1 then (
      Book_open_j37 S)
    else (
      gd (inb x1 48) <|
      nm (pA S 3 7 x1.toNatClampNeg (gI S 3 12)) fun S_4 =>
      gd (inb x1 48) <|
      nm (pA S_4 3 8 x1.toNatClampNeg (gI S_4 3 12)) fun S_6 =>
      gd (inb x1 48) <|
      nm (pA S_6 3 9 x1.toNatClampNeg (-1 : Int32)) fun S_8 =>
      Book_open_j37 S_8))
noncomputable def Book_addTold_j23 (S : St) : Option St :=
  some S
noncomputable def f_Book_addTold (S : St) (x1 : Int32) : Option St :=
  if x1 < 0 then (
    Book_addTold_j23 S)
  else (
    if (nI 6) ≤ x1 then (
      Book_addTold_j23 S)
    else (
      gd (inb x1 6) <|
      gd (inb x1 6) <|
      nm (pA S 3 4 x1.toNatClampNeg ((gA S 3 4 x1.toNatClampNeg) + (1 : Int32))) fun S_5 =>
      Book_addTold_j23 S_5))
noncomputable def Reader_beginSort_j84 (S : St) (x2 : Int32) : Option (Int32 × St) :=
  some (x2, S)
noncomputable def Reader_beginSort_j47 (S : St) (x1 : Int32) (x2 : Int32) (x3 : Int32) (t1 : Int32) : Option (Int32 × St) :=
  nm (pI S 1 8 t1) fun S_9 =>
  nm (pI S_9 1 10 ((x1 * (8 : Int32)) + x3)) fun S_10 =>
  nm (pI S_10 1 11 (0 : Int32)) fun S_11 =>
  bd (f_Book_open S_11 (gI S_11 1 10)) fun S_13 =>
  bd (f_Book_addTold S_13 x1) fun S_15 =>
  Reader_beginSort_j84 S_15 x2
noncomputable def Reader_beginSort_j21 (S : St) (x1 : Int32) (x2 : Int32) (x3 : Int32) (t1 : Int32) : Option (Int32 × St) :=
  gd (isB t1) <|
  nm (pI S 1 13 t1) fun S_5 =>
  if (gI S_5 1 13) = 0 then (
    nm (pI S_5 1 9 x1) fun S_7 =>
    if x1 = (4 : Int32) then (
      Reader_beginSort_j47 S_7 x1 x2 x3 (0 : Int32))
    else (
      Reader_beginSort_j47 S_7 x1 x2 x3 (1 : Int32)))
  else (
    Reader_beginSort_j84 S_5 x2)
noncomputable def f_Reader_beginSort (S : St) (x1 : Int32) (x2 : Int32) : Option (Int32 × St) :=
  bd (f_Book_toldOf 3 S x1) fun v_2 =>
  if v_2 < (8 : Int32) then (
    Reader_beginSort_j21 S x1 x2 v_2 (0 : Int32))
  else (
    Reader_beginSort_j21 S x1 x2 v_2 (1 : Int32))
noncomputable def Reader_beginTell_j111 (S : St) : Option (Int32 × St) :=
  some ((-1 : Int32), S)
noncomputable def Reader_beginTell_j66 (S : St) (t1 : Int32) : Option (Int32 × St) :=
  gd (isB t1) <|
  nm (pI S 1 13 t1) fun S_26 =>
  some ((1 : Int32), S_26)
noncomputable def f_Reader_beginTell (S : St) (x1 : Int32) : Option (Int32 × St) :=
  if x1 = (14 : Int32) then (
    if (gI S 3 10) < (6 : Int32) then (
      Reader_beginTell_j66 S (0 : Int32))
    else (
      Reader_beginTell_j66 S (1 : Int32)))
  else
  if x1 = (15 : Int32) then (
    Reader_beginTell_j111 S)
  else
  if x1 = (16 : Int32) then (
    Reader_beginTell_j111 S)
  else
  if x1 = (17 : Int32) then (
    bd2 (f_Reader_beginSort S (0 : Int32) (8 : Int32)) fun v_7 S_8 =>
    some (v_7, S_8))
  else
  if x1 = (18 : Int32) then (
    bd2 (f_Reader_beginSort S (1 : Int32) (7 : Int32)) fun v_11 S_12 =>
    some (v_11, S_12))
  else
  if x1 = (19 : Int32) then (
    bd2 (f_Reader_beginSort S (2 : Int32) (8 : Int32)) fun v_15 S_16 =>
    some (v_15, S_16))
  else
  if x1 = (20 : Int32) then (
    bd2 (f_Reader_beginSort S (3 : Int32) (8 : Int32)) fun v_19 S_20 =>
    some (v_19, S_20))
  else
  if x1 = (21 : Int32) then (
    bd2 (f_Reader_beginSort S (4 : Int32) (9 : Int32)) fun v_23 S_24 =>
    some (v_23, S_24))
  else
  (
    Reader_beginTell_j111 S)
noncomputable def Book_fieldNamed_j38_l2 (S : St) : Option (Int32 ⊕ Int32) :=
  some (.inr (-1 : Int32))
noncomputable def Book_fieldNamed_l2 (S : St) (x1 : Int64) (x3 : Int32) : Option (Int32 ⊕ Int32) :=
  if (gI S 3 10) ≤ x3 then (
    Book_fieldNamed_j38_l2 S)
  else (
    if (nI 8) ≤ x3 then (
      Book_fieldNamed_j38_l2 S)
    else (
      gd (inb x3 8) <|
      if (lg_cmp (gB S 3 0 x3.toNatClampNeg) x1) = 0 then (
        some (.inr x3))
      else (
        nm (x3 + (1 : Int32)) fun x3_5 =>
        some (.inl x3_5))))
noncomputable def f_Book_fieldNamed (S : St) (x1 : Int64) : Option Int32 :=
  wh (Book_fieldNamed_l2 S x1) (0 : Int32)
noncomputable def f_Book_addField (S : St) (x1 : Int64) (x3 : Int32) (x4 : Int32) : Option St :=
  if (gI S 3 10) < (6 : Int32) then (
    gd (inb (gI S 3 10) 8) <|
    nm (pB S 3 0 (gI S 3 10).toNatClampNeg x1) fun S_3 =>
    gd (inb (gI S_3 3 10) 8) <|
    nm (pA S_3 3 1 (gI S_3 3 10).toNatClampNeg x3) fun S_5 =>
    gd (inb (gI S_5 3 10) 8) <|
    nm (pA S_5 3 2 (gI S_5 3 10).toNatClampNeg x4) fun S_7 =>
    nm (pI S_7 3 10 ((gI S_7 3 10) + (1 : Int32))) fun S_8 =>
    nm (pI S_8 3 11 (if (32769 : Int32) < ((gI S_8 3 11) * (if (1 : Int32) < ((x4 - x3) + (1 : Int32)) then ((x4 - x3) + (1 : Int32)) else (1 : Int32))) then (32769 : Int32) else ((gI S_8 3 11) * (if (1 : Int32) < ((x4 - x3) + (1 : Int32)) then ((x4 - x3) + (1 : Int32)) else (1 : Int32))))) fun S_9 =>
    some S_9)
  else (
    some S)
noncomputable def Reader_endField_j94 (S : St) : Option (Int32 × St) :=
  some ((6 : Int32), S)
noncomputable def Reader_endField_j50 (S : St) : Option (Int32 × St) :=
  bd (f_Book_addField S (gL S 1 14) (gI S 1 16) (gI S 2 5)) fun S_10 =>
  if (gI S_10 3 11) ≤ (32768 : Int32) then (
    Reader_endField_j94 S_10)
  else (
    bd (f_Reader_blame S_10 (6 : Int32) (gI S_10 1 15)) fun S_13 =>
    Reader_endField_j94 S_13)
noncomputable def Reader_endField_j24 (S : St) : Option (Int32 × St) :=
  if (gI S 1 16) ≤ (gI S 2 5) then (
    Reader_endField_j50 S)
  else (
    bd (f_Reader_blame S (5 : Int32) (gI S 2 4)) fun S_8 =>
    Reader_endField_j50 S_8)
noncomputable def f_Reader_endField (S : St) : Option (Int32 × St) :=
  bd (f_Book_fieldNamed S (gL S 1 14)) fun v_2 =>
  if v_2 = (-1 : Int32) then (
    Reader_endField_j24 S)
  else (
    bd (f_Reader_blame S (3 : Int32) (gI S 1 15)) fun S_5 =>
    Reader_endField_j24 S_5)
noncomputable def Book_setWeight_j20 (S : St) : Option St :=
  some S
noncomputable def f_Book_setWeight (S : St) (x1 : Int32) (x2 : Int32) : Option St :=
  if x1 < 0 then (
    Book_setWeight_j20 S)
  else (
    if (nI 8) ≤ x1 then (
      Book_setWeight_j20 S)
    else (
      gd (inb x1 8) <|
      nm (pA S 3 5 x1.toNatClampNeg x2) fun S_4 =>
      Book_setWeight_j20 S_4))
noncomputable def f_Reader_weigh (S : St) : Option (Int32 × St) :=
  bd (f_Book_toldOf 3 S (1 : Int32)) fun v_2 =>
  bd (f_Book_setWeight S (v_2 - (1 : Int32)) (gI S 2 5)) fun S_4 =>
  some ((8 : Int32), S_4)
noncomputable def Book_emit_j85 (S : St) : Option St :=
  some S
noncomputable def Book_emit_j68 (S : St) (x1 : Int32) (x3 : Int32) : Option St :=
  gd (inb x1 48) <|
  if x3 ≤ (gA S 3 9 x1.toNatClampNeg) then (
    Book_emit_j85 S)
  else (
    gd (inb x1 48) <|
    nm (pA S 3 9 x1.toNatClampNeg x3) fun S_14 =>
    Book_emit_j85 S_14)
noncomputable def Book_emit_j22 (S : St) : Option St :=
  some S
noncomputable def f_Book_emit (S : St) (x1 : Int32) (x2 : Int32) (x3 : Int32) : Option St :=
  if x1 < 0 then (
    Book_emit_j22 S)
  else (
    if (48 : Int32) ≤ x1 then (
      Book_emit_j22 S)
    else (
      if (gI S 3 12) < (nI 400) then (
        gd (inb (gI S 3 12) 400) <|
        nm (pA S 3 6 (gI S 3 12).toNatClampNeg ((x3 <<< ((5 : Int32) &&& 31)) ||| x2)) fun S_5 =>
        nm (pI S_5 3 12 ((gI S_5 3 12) + (1 : Int32))) fun S_6 =>
        gd (inb x1 48) <|
        nm (pA S_6 3 8 x1.toNatClampNeg (gI S_6 3 12)) fun S_8 =>
        if x2 = (2 : Int32) then (
          Book_emit_j68 S_8 x1 x3)
        else (
          if x2 = (26 : Int32) then (
            Book_emit_j68 S_8 x1 x3)
          else (
            Book_emit_j85 S_8)))
      else (
        Book_emit_j22 S)))
noncomputable def Reader_nameInCode_j32 (S : St) (x1 : Int32) (x2 : Int32) : Option (Int32 × St) :=
  bd (f_Book_emit S (gI S 1 10) x1 (if (0 : Int32) < x2 then x2 else (0 : Int32))) fun S_7 =>
  some ((11 : Int32), S_7)
noncomputable def f_Reader_nameInCode (S : St) (x1 : Int32) : Option (Int32 × St) :=
  bd (f_Book_fieldNamed S (gL S 2 6)) fun v_2 =>
  if v_2 = (-1 : Int32) then (
    bd (f_Reader_blame S (4 : Int32) (gI S 2 4)) fun S_5 =>
    Reader_nameInCode_j32 S_5 x1 v_2)
  else (
    Reader_nameInCode_j32 S x1 v_2)
noncomputable def Reader_lastWaiting_j34 (S : St) (t0 : Int32) : Option Int32 :=
  some t0
noncomputable def Reader_lastWaiting_j33 (S : St) : Option Int32 :=
  Reader_lastWaiting_j34 S (0 : Int32)
noncomputable def f_Reader_lastWaiting (S : St) : Option Int32 :=
  if (gI S 1 11) ≤ 0 then (
    Reader_lastWaiting_j33 S)
  else (
    if (nI 64) < (gI S 1 11) then (
      Reader_lastWaiting_j33 S)
    else (
      gd (inb ((gI S 1 11) - (1 : Int32)) 64) <|
      Reader_lastWaiting_j34 S (gA S 1 1 ((gI S 1 11) - (1 : Int32)).toNatClampNeg)))
noncomputable def Reader_tightness_j113 : Option Int32 :=
  some (0 : Int32)
noncomputable def Reader_tightness_j105 : Option Int32 :=
  some (4 : Int32)
noncomputable def Reader_tightness_j103 : Option Int32 :=
  some (5 : Int32)
noncomputable def f_Reader_tightness (x0 : Int32) : Option Int32 :=
  if x0 = (5 : Int32) then (
    Reader_tightness_j103)
  else
  if x0 = (6 : Int32) then (
    Reader_tightness_j103)
  else
  if x0 = (7 : Int32) then (
    some (6 : Int32))
  else
  if x0 = (8 : Int32) then (
    Reader_tightness_j105)
  else
  if x0 = (9 : Int32) then (
    Reader_tightness_j105)
  else
  if x0 = (10 : Int32) then (
    Reader_tightness_j105)
  else
  if x0 = (11 : Int32) then (
    Reader_tightness_j105)
  else
  if x0 = (12 : Int32) then (
    Reader_tightness_j113)
  else
  if x0 = (13 : Int32) then (
    Reader_tightness_j113)
  else
  if x0 = (14 : Int32) then (
    Reader_tightness_j113)
  else
  if x0 = (15 : Int32) then (
    Reader_tightness_j113)
  else
  if x0 = (16 : Int32) then (
    Reader_tightness_j113)
  else
  if x0 = (17 : Int32) then (
    Reader_tightness_j113)
  else
  if x0 = (18 : Int32) then (
    Reader_tightness_j113)
  else
  if x0 = (19 : Int32) then (
    Reader_tightness_j113)
  else
  if x0 = (20 : Int32) then (
    Reader_tightness_j113)
  else
  if x0 = (21 : Int32) then (
    Reader_tightness_j113)
  else
  if x0 = (22 : Int32) then (
    Reader_tightness_j113)
  else
  if x0 = (23 : Int32) then (
    some (1 : Int32))
  else
  if x0 = (24 : Int32) then (
    some (2 : Int32))
  else
  if x0 = (25 : Int32) then (
    some (3 : Int32))
  else
  (
    Reader_tightness_j113)
noncomputable def Reader_release_l5 (x1 : Int32) (S : St) (x2 : Int32) : Option ((St × Int32) ⊕ St) :=
  if x2 ≤ 0 then (
    some (.inr S))
  else (
    bd (f_Reader_lastWaiting S) fun v_4 =>
    bd (f_Reader_tightness v_4) fun v_6 =>
    if v_6 < x1 then (
      some (.inr S))
    else (
      bd (f_Reader_lastWaiting S) fun v_9 =>
      bd (f_Book_emit S (gI S 1 10) v_9 (0 : Int32)) fun S_11 =>
      nm (pI S_11 1 11 ((gI S_11 1 11) - (1 : Int32))) fun S_12 =>
      nm (x2 + (-1 : Int32)) fun x2_13 =>
      some (.inl (S_12, x2_13))))
noncomputable def Reader_release_j52 (S : St) : Option St :=
  some S
noncomputable def f_Reader_release (S : St) (x1 : Int32) : Option St :=
  nm (gI S 1 11) fun x2_1 =>
  bd (wh (un2 (Reader_release_l5 x1)) (S, x2_1)) fun S_14 =>
  Reader_release_j52 S_14
noncomputable def f_Reader_beginShareCondition (S : St) : Option (Int32 × St) :=
  bd (f_Reader_release S (1 : Int32)) fun S_2 =>
  bd (f_Book_toldOf 3 S_2 (4 : Int32)) fun v_4 =>
  nm (pI S_2 1 10 (((40 : Int32) + v_4) - (1 : Int32))) fun S_5 =>
  bd (f_Book_open S_5 (gI S_5 1 10)) fun S_7 =>
  some ((8 : Int32), S_7)
noncomputable def Reader_await_j39 (S : St) : Option St :=
  some S
noncomputable def f_Reader_await (S : St) (x1 : Int32) : Option St :=
  if (gI S 1 11) < 0 then (
    Reader_await_j39 S)
  else (
    if (nI 64) ≤ (gI S 1 11) then (
      Reader_await_j39 S)
    else (
      gd (inb (gI S 1 11) 64) <|
      nm (pA S 1 1 (gI S 1 11).toNatClampNeg x1) fun S_4 =>
      nm (pI S_4 1 11 ((gI S_4 1 11) + (1 : Int32))) fun S_5 =>
      Reader_await_j39 S_5))
noncomputable def f_Reader_join (S : St) (x1 : Int32) (x2 : Int32) : Option (Int32 × St) :=
  bd (f_Reader_tightness x1) fun v_2 =>
  bd (f_Reader_release S v_2) fun S_4 =>
  bd (f_Reader_await S_4 x1) fun S_6 =>
  some (x2, S_6)
noncomputable def Reader_goOnBehindExpression_j190 (S : St) : Option (Int32 × St) :=
  some ((-1 : Int32), S)
noncomputable def Reader_goOnBehindExpression_j189 (S : St) (t0 : Int32) : Option (Int32 × St) :=
  some (t0, S)
noncomputable def Reader_goOnBehindExpression_j173 (S : St) (t0 : Int32) : Option (Int32 × St) :=
  some (t0, S)
noncomputable def Reader_goOnBehindExpression_j155 (S : St) (t0 : Int32) : Option (Int32 × St) :=
  some (t0, S)
noncomputable def Reader_goOnBehindExpression_j134 (S : St) (x1 : Int32) (x2 : Int32) : Option (Int32 × St) :=
  nm (pI S 1 8 (1 : Int32)) fun S_39 =>
  if x2 = (2 : Int32) then (
    bd2 (f_Reader_join S_39 x1 (8 : Int32)) fun v_42 S_43 =>
    Reader_goOnBehindExpression_j155 S_43 v_42)
  else (
    Reader_goOnBehindExpression_j155 S_39 (-1 : Int32))
noncomputable def Reader_goOnBehindExpression_j133 (S : St) (t0 : Int32) : Option (Int32 × St) :=
  some (t0, S)
noncomputable def Reader_goOnBehindExpression_j112 (S : St) (x1 : Int32) (x2 : Int32) : Option (Int32 × St) :=
  nm (pI S 1 8 (2 : Int32)) fun S_34 =>
  if x2 = (1 : Int32) then (
    bd2 (f_Reader_join S_34 x1 (9 : Int32)) fun v_37 S_38 =>
    Reader_goOnBehindExpression_j133 S_38 v_37)
  else (
    Reader_goOnBehindExpression_j133 S_34 (-1 : Int32))
noncomputable def Reader_goOnBehindExpression_j104 (S : St) (x1 : Int32) : Option (Int32 × St) :=
  bd2 (f_Reader_join S x1 (9 : Int32)) fun v_32 S_33 =>
  some (v_32, S_33)
noncomputable def f_Reader_goOnBehindExpression (S : St) (x1 : Int32) : Option (Int32 × St) :=
  nm (gI S 1 8) fun x2_1 =>
  if x1 = (4 : Int32) then (
    bd (f_Reader_release S (1 : Int32)) fun S_4 =>
    if x2_1 = (1 : Int32) then (
      Reader_goOnBehindExpression_j189 S_4 (-1 : Int32))
    else (
      Reader_goOnBehindExpression_j189 S_4 (0 : Int32)))
  else
  if x1 = (5 : Int32) then (
    Reader_goOnBehindExpression_j104 S x1)
  else
  if x1 = (6 : Int32) then (
    Reader_goOnBehindExpression_j104 S x1)
  else
  if x1 = (7 : Int32) then (
    Reader_goOnBehindExpression_j104 S x1)
  else
  if x1 = (8 : Int32) then (
    Reader_goOnBehindExpression_j112 S x1 x2_1)
  else
  if x1 = (9 : Int32) then (
    Reader_goOnBehindExpression_j112 S x1 x2_1)
  else
  if x1 = (10 : Int32) then (
    Reader_goOnBehindExpression_j112 S x1 x2_1)
  else
  if x1 = (11 : Int32) then (
    Reader_goOnBehindExpression_j112 S x1 x2_1)
  else
  if x1 = (12 : Int32) then (
    Reader_goOnBehindExpression_j190 S)
  else
  if x1 = (13 : Int32) then (
    Reader_goOnBehindExpression_j190 S)
  else
  if x1 = (14 : Int32) then (
    Reader_goOnBehindExpression_j190 S)
  else
  if x1 = (15 : Int32) then (
    Reader_goOnBehindExpression_j190 S)
  else
  if x1 = (16 : Int32) then (
    Reader_goOnBehindExpression_j190 S)
  else
  if x1 = (17 : Int32) then (
    Reader_goOnBehindExpression_j190 S)
  else
  if x1 = (18 : Int32) then (
    Reader_goOnBehindExpression_j190 S)
  else
  if x1 = (19 : Int32) then (
    Reader_goOnBehindExpression_j190 S)
  else
  if x1 = (20 : Int32) then (
    Reader_goOnBehindExpression_j190 S)
  else
  if x1 = (21 : Int32) then (
    Reader_goOnBehindExpression_j190 S)
  else
  if x1 = (22 : Int32) then (
    nm (pI S 1 8 (1 : Int32)) fun S_24 =>
    if x2_1 = 0 then (
      bd2 (f_Reader_beginShareCondition S_24) fun v_27 S_28 =>
      Reader_goOnBehindExpression_j173 S_28 v_27)
    else (
      Reader_goOnBehindExpression_j173 S_24 (-1 : Int32)))
  else
  if x1 = (23 : Int32) then (
    Reader_goOnBehindExpression_j134 S x1 x2_1)
  else
  if x1 = (24 : Int32) then (
    Reader_goOnBehindExpression_j134 S x1 x2_1)
  else
  (
    Reader_goOnBehindExpression_j190 S)
noncomputable def f_Reader_closeBracket (S : St) : Option (Int32 × St) :=
  bd (f_Reader_release S (1 : Int32)) fun S_2 =>
  nm (pI S_2 1 11 ((gI S_2 1 11) - (1 : Int32))) fun S_3 =>
  nm (pI S_3 1 12 ((gI S_3 1 12) - (1 : Int32))) fun S_4 =>
  some ((11 : Int32), S_4)
noncomputable def Reader_goOnInBrackets_j65 (S : St) : Option (Int32 × St) :=
  some ((-1 : Int32), S)
noncomputable def Reader_goOnInBrackets_j52 (S : St) (x1 : Int32) : Option (Int32 × St) :=
  bd2 (f_Reader_join S x1 (9 : Int32)) fun v_14 S_15 =>
  some (v_14, S_15)
noncomputable def f_Reader_goOnInBrackets (S : St) (x1 : Int32) : Option (Int32 × St) :=
  if x1 = (5 : Int32) then (
    Reader_goOnInBrackets_j52 S x1)
  else
  if x1 = (6 : Int32) then (
    Reader_goOnInBrackets_j52 S x1)
  else
  if x1 = (7 : Int32) then (
    Reader_goOnInBrackets_j52 S x1)
  else
  if x1 = (8 : Int32) then (
    Reader_goOnInBrackets_j65 S)
  else
  if x1 = (9 : Int32) then (
    Reader_goOnInBrackets_j65 S)
  else
  if x1 = (10 : Int32) then (
    Reader_goOnInBrackets_j65 S)
  else
  if x1 = (11 : Int32) then (
    Reader_goOnInBrackets_j65 S)
  else
  if x1 = (12 : Int32) then (
    Reader_goOnInBrackets_j65 S)
  else
  if x1 = (13 : Int32) then (
    bd2 (f_Reader_closeBracket S) fun v_11 S_12 =>
    some (v_11, S_12))
  else
  (
    Reader_goOnInBrackets_j65 S)
noncomputable def Reader_turnLiteral_j28 (S : St) : Option (Int32 × St) :=
  some ((8 : Int32), S)
noncomputable def f_Reader_turnLiteral (S : St) : Option (Int32 × St) :=
  bd (f_Reader_lastWaiting S) fun v_2 =>
  if v_2 = (25 : Int32) then (
    nm (pI S 1 11 ((gI S 1 11) - (1 : Int32))) fun S_6 =>
    Reader_turnLiteral_j28 S_6)
  else (
    bd (f_Reader_await S (25 : Int32)) fun S_5 =>
    Reader_turnLiteral_j28 S_5)
noncomputable def Reader_goOnAtUnit_j136 (S : St) (t1 : Int32) : Option (Int32 × St) :=
  gd (isB t1) <|
  nm (pI S 1 13 t1) fun S_20 =>
  nm (pI S_20 1 12 ((gI S_20 1 12) + (1 : Int32))) fun S_21 =>
  bd (f_Reader_await S_21 (12 : Int32)) fun S_23 =>
  some ((9 : Int32), S_23)
noncomputable def Reader_goOnAtUnit_j118 (S : St) : Option (Int32 × St) :=
  some ((10 : Int32), S)
noncomputable def Reader_goOnAtUnit_j69 (S : St) (t0 : Int32) : Option (Int32 × St) :=
  some (t0, S)
noncomputable def f_Reader_goOnAtUnit (S : St) (x1 : Int32) : Option (Int32 × St) :=
  if x1 = (2 : Int32) then (
    bd2 (f_Reader_nameInCode S (2 : Int32)) fun v_3 S_4 =>
    some (v_3, S_4))
  else
  if x1 = (3 : Int32) then (
    bd (f_Book_emit S (gI S 1 10) (3 : Int32) (gI S 2 5)) fun S_7 =>
    some ((11 : Int32), S_7))
  else
  if x1 = (12 : Int32) then (
    if (gI S 1 12) < (6 : Int32) then (
      Reader_goOnAtUnit_j136 S (0 : Int32))
    else (
      Reader_goOnAtUnit_j136 S (1 : Int32)))
  else
  if x1 = (25 : Int32) then (
    if (gI S 1 7) = (8 : Int32) then (
      bd2 (f_Reader_turnLiteral S) fun v_13 S_14 =>
      Reader_goOnAtUnit_j69 S_14 v_13)
    else (
      Reader_goOnAtUnit_j69 S (-1 : Int32)))
  else
  if x1 = (26 : Int32) then (
    if (gI S 1 9) = (3 : Int32) then (
      Reader_goOnAtUnit_j118 S)
    else (
      bd (f_Reader_blame S (5 : Int32) (gI S 2 4)) fun S_18 =>
      Reader_goOnAtUnit_j118 S_18))
  else
  (
    some ((-1 : Int32), S))
noncomputable def Reader_goOn_j229 (S : St) (x1 : Int32) : Option (Int32 × St) :=
  bd2 (f_Reader_goOnAtUnit S x1) fun v_45 S_46 =>
  some (v_45, S_46)
noncomputable def Reader_goOn_j228 (S : St) (t0 : Int32) : Option (Int32 × St) :=
  some (t0, S)
noncomputable def Reader_goOn_j207 (S : St) (t0 : Int32) : Option (Int32 × St) :=
  some (t0, S)
noncomputable def Reader_goOn_j191 (S : St) (t0 : Int32) : Option (Int32 × St) :=
  some (t0, S)
noncomputable def Reader_goOn_j177 (S : St) (t0 : Int32) : Option (Int32 × St) :=
  some (t0, S)
noncomputable def Reader_goOn_j166 (S : St) (t0 : Int32) : Option (Int32 × St) :=
  some (t0, S)
noncomputable def Reader_goOn_j152 (S : St) (t0 : Int32) : Option (Int32 × St) :=
  some (t0, S)
noncomputable def Reader_goOn_j140 (S : St) (t0 : Int32) : Option (Int32 × St) :=
  some (t0, S)
noncomputable def Reader_goOn_j118 (S : St) (t0 : Int32) : Option (Int32 × St) :=
  some (t0, S)
noncomputable def Reader_goOn_j106 (S : St) (t0 : Int32) : Option (Int32 × St) :=
  some (t0, S)
noncomputable def f_Reader_goOn (S : St) (x1 : Int32) : Option (Int32 × St) :=
  nm (gI S 1 7) fun v_1 =>
  if v_1 = (0 : Int32) then (
    bd2 (f_Reader_beginTell S x1) fun v_4 S_5 =>
    some (v_4, S_5))
  else
  if v_1 = (1 : Int32) then (
    nm (pL S 1 14 (gL S 2 6)) fun S_7 =>
    nm (pI S_7 1 15 (gI S_7 2 4)) fun S_8 =>
    if x1 = (2 : Int32) then (
      Reader_goOn_j106 S_8 (2 : Int32))
    else (
      Reader_goOn_j106 S_8 (-1 : Int32)))
  else
  if v_1 = (2 : Int32) then (
    if x1 = (15 : Int32) then (
      Reader_goOn_j118 S (3 : Int32))
    else (
      Reader_goOn_j118 S (-1 : Int32)))
  else
  if v_1 = (3 : Int32) then (
    nm (pI S 1 16 (gI S 2 5)) fun S_13 =>
    if x1 = (3 : Int32) then (
      Reader_goOn_j140 S_13 (4 : Int32))
    else (
      Reader_goOn_j140 S_13 (-1 : Int32)))
  else
  if v_1 = (4 : Int32) then (
    if x1 = (16 : Int32) then (
      Reader_goOn_j152 S (5 : Int32))
    else (
      Reader_goOn_j152 S (-1 : Int32)))
  else
  if v_1 = (5 : Int32) then (
    if x1 = (3 : Int32) then (
      bd2 (f_Reader_endField S) fun v_20 S_21 =>
      Reader_goOn_j166 S_21 v_20)
    else (
      Reader_goOn_j166 S (-1 : Int32)))
  else
  if v_1 = (6 : Int32) then (
    if x1 = (4 : Int32) then (
      Reader_goOn_j177 S (0 : Int32))
    else (
      Reader_goOn_j177 S (-1 : Int32)))
  else
  if v_1 = (7 : Int32) then (
    if x1 = (3 : Int32) then (
      bd2 (f_Reader_weigh S) fun v_27 S_28 =>
      Reader_goOn_j191 S_28 v_27)
    else (
      Reader_goOn_j191 S (-1 : Int32)))
  else
  if v_1 = (8 : Int32) then (
    Reader_goOn_j229 S x1)
  else
  if v_1 = (9 : Int32) then (
    Reader_goOn_j229 S x1)
  else
  if v_1 = (10 : Int32) then (
    if x1 = (2 : Int32) then (
      bd2 (f_Reader_nameInCode S (26 : Int32)) fun v_34 S_35 =>
      Reader_goOn_j207 S_35 v_34)
    else (
      Reader_goOn_j207 S (-1 : Int32)))
  else
  if v_1 = (11 : Int32) then (
    if (gI S 1 12) ≤ 0 then (
      bd2 (f_Reader_goOnBehindExpression S x1) fun v_39 S_40 =>
      Reader_goOn_j228 S_40 v_39)
    else (
      bd2 (f_Reader_goOnInBrackets S x1) fun v_42 S_43 =>
      Reader_goOn_j228 S_43 v_42))
  else
  (
    Reader_goOn_j229 S x1)
noncomputable def Scanner_isDigit_j17 (t0 : Int32) : Option Int32 :=
  gd (isB t0) <|
  some t0
noncomputable def Scanner_isDigit_j16 : Option Int32 :=
  Scanner_isDigit_j17 (0 : Int32)
noncomputable def f_Scanner_isDigit (x0 : Int32) : Option Int32 :=
  if x0 < (48 : Int32) then (
    Scanner_isDigit_j16)
  else (
    if (57 : Int32) < x0 then (
      Scanner_isDigit_j16)
    else (
      Scanner_isDigit_j17 (1 : Int32)))
noncomputable def Scanner_scanInt_l5 (S : St) : Option (St ⊕ St) :=
  if (gI S 2 1) ≤ (gI S 2 2) then (
    some (.inr S))
  else (
    gd (inb (gI S 2 2) 2000) <|
    bd (f_Scanner_isDigit (gA S 0 0 (gI S 2 2).toNatClampNeg)) fun v_5 =>
    if v_5 = 0 then (
      some (.inr S))
    else (
      gd (inb (gI S 2 2) 2000) <|
      nm (pI S 2 5 ((((gI S 2 5) * (10 : Int32)) + (gA S 0 0 (gI S 2 2).toNatClampNeg)) - (48 : Int32))) fun S_8 =>
      nm (pI S_8 2 2 ((gI S_8 2 2) + (1 : Int32))) fun S_9 =>
      some (.inl S_9)))
noncomputable def Scanner_scanInt_j87 (S : St) (t1 : Int32) : Option St :=
  nm (pI S 2 3 t1) fun S_13 =>
  some S_13
noncomputable def Scanner_scanInt_j68 (S : St) : Option St :=
  if ((gI S 2 2) - (gI S 2 4)) ≤ (4 : Int32) then (
    Scanner_scanInt_j87 S (3 : Int32))
  else (
    Scanner_scanInt_j87 S (1 : Int32))
noncomputable def f_Scanner_scanInt (S : St) : Option St :=
  nm (pI S 2 5 (0 : Int32)) fun S_1 =>
  bd (wh Scanner_scanInt_l5 S_1) fun S_10 =>
  Scanner_scanInt_j68 S_10
noncomputable def f_Scanner_signWithEqual (x0 : Int32) : Option Int32 :=
  if x0 = (33 : Int32) then (
    some (9 : Int32))
  else
  if x0 = (60 : Int32) then (
    some (11 : Int32))
  else
  if x0 = (61 : Int32) then (
    some (8 : Int32))
  else
  (
    some (1 : Int32))
noncomputable def Scanner_plainSign_j119 : Option Int32 :=
  some (1 : Int32)
noncomputable def f_Scanner_plainSign (x0 : Int32) : Option Int32 :=
  if x0 = (40 : Int32) then (
    some (12 : Int32))
  else
  if x0 = (41 : Int32) then (
    some (13 : Int32))
  else
  if x0 = (42 : Int32) then (
    some (7 : Int32))
  else
  if x0 = (43 : Int32) then (
    some (5 : Int32))
  else
  if x0 = (44 : Int32) then (
    Scanner_plainSign_j119)
  else
  if x0 = (45 : Int32) then (
    some (6 : Int32))
  else
  if x0 = (46 : Int32) then (
    Scanner_plainSign_j119)
  else
  if x0 = (47 : Int32) then (
    Scanner_plainSign_j119)
  else
  if x0 = (48 : Int32) then (
    Scanner_plainSign_j119)
  else
  if x0 = (49 : Int32) then (
    Scanner_plainSign_j119)
  else
  if x0 = (50 : Int32) then (
    Scanner_plainSign_j119)
  else
  if x0 = (51 : Int32) then (
    Scanner_plainSign_j119)
  else
  if x0 = (52 : Int32) then (
    Scanner_plainSign_j119)
  else
  if x0 = (53 : Int32) then (
    Scanner_plainSign_j119)
  else
  if x0 = (54 : Int32) then (
    Scanner_plainSign_j119)
  else
  if x0 = (55 : Int32) then (
    Scanner_plainSign_j119)
  else
  if x0 = (56 : Int32) then (
    Scanner_plainSign_j119)
  else
  if x0 = (57 : Int32) then (
    Scanner_plainSign_j119)
  else
  if x0 = (58 : Int32) then (
    Scanner_plainSign_j119)
  else
  if x0 = (59 : Int32) then (
    some (4 : Int32))
  else
  if x0 = (60 : Int32) then (
    some (10 : Int32))
  else
  (
    Scanner_plainSign_j119)
noncomputable def Scanner_scanSign_j90 (S : St) : Option St :=
  some S
noncomputable def Scanner_scanSign_j48 (S : St) (x1 : Int32) (t1 : Int32) : Option St :=
  nm (pI S 2 3 t1) fun S_7 =>
  if (gI S_7 2 3) = (1 : Int32) then (
    bd (f_Scanner_plainSign x1) fun v_10 =>
    nm (pI S_7 2 3 v_10) fun S_11 =>
    nm (pI S_11 2 2 ((gI S_11 2 2) + (1 : Int32))) fun S_12 =>
    Scanner_scanSign_j90 S_12)
  else (
    nm (pI S_7 2 2 ((gI S_7 2 2) + (2 : Int32))) fun S_13 =>
    Scanner_scanSign_j90 S_13)
noncomputable def Scanner_scanSign_j34 (S : St) (x1 : Int32) (t0 : Int32) : Option St :=
  if t0 = 0 then (
    Scanner_scanSign_j48 S x1 (1 : Int32))
  else (
    bd (f_Scanner_signWithEqual x1) fun v_6 =>
    Scanner_scanSign_j48 S x1 v_6)
noncomputable def Scanner_scanSign_j33 (S : St) (x1 : Int32) : Option St :=
  Scanner_scanSign_j34 S x1 (0 : Int32)
noncomputable def f_Scanner_scanSign (S : St) (x1 : Int32) : Option St :=
  if (gI S 2 1) ≤ ((gI S 2 2) + (1 : Int32)) then (
    Scanner_scanSign_j33 S x1)
  else (
    gd (inb ((gI S 2 2) + (1 : Int32)) 2000) <|
    if (gA S 0 0 ((gI S 2 2) + (1 : Int32)).toNatClampNeg) = (61 : Int32) then (
      Scanner_scanSign_j34 S x1 (1 : Int32))
    else (
      Scanner_scanSign_j33 S x1))
noncomputable def Scanner_isBlank_j29 (t0 : Int32) : Option Int32 :=
  gd (isB t0) <|
  some t0
noncomputable def Scanner_isBlank_j24 : Option Int32 :=
  Scanner_isBlank_j29 (1 : Int32)
noncomputable def f_Scanner_isBlank (x0 : Int32) : Option Int32 :=
  if x0 = (9 : Int32) then (
    Scanner_isBlank_j24)
  else (
    if x0 = (10 : Int32) then (
      Scanner_isBlank_j24)
    else (
      if x0 = (13 : Int32) then (
        Scanner_isBlank_j24)
      else (
        if x0 = (32 : Int32) then (
          Scanner_isBlank_j24)
        else (
          Scanner_isBlank_j29 (0 : Int32)))))
noncomputable def Scanner_isLetter_j17 (t0 : Int32) : Option Int32 :=
  gd (isB t0) <|
  some t0
noncomputable def Scanner_isLetter_j16 : Option Int32 :=
  Scanner_isLetter_j17 (0 : Int32)
noncomputable def f_Scanner_isLetter (x0 : Int32) : Option Int32 :=
  if x0 < (97 : Int32) then (
    Scanner_isLetter_j16)
  else (
    if (122 : Int32) < x0 then (
      Scanner_isLetter_j16)
    else (
      Scanner_isLetter_j17 (1 : Int32)))
noncomputable def f_Book_clear (S : St) : Option St :=
  nm (pI S 3 10 (0 : Int32)) fun S_1 =>
  nm (pI S_1 3 11 (1 : Int32)) fun S_2 =>
  nm (pI S_2 3 12 (0 : Int32)) fun S_3 =>
  bd (f_Arrays_fill 3 4 S_3 (0 : Int32)) fun S_5 =>
  bd (f_Arrays_fill 3 7 S_5 (0 : Int32)) fun S_7 =>
  bd (f_Arrays_fill 3 8 S_7 (0 : Int32)) fun S_9 =>
  bd (f_Arrays_fill 3 9 S_9 (-1 : Int32)) fun S_11 =>
  some S_11
noncomputable def Book_setStrides_l14 (S : St) (x1 : Int32) (x2 : Int32) : Option ((St × Int32 × Int32) ⊕ St) :=
  if x2 < 0 then (
    some (.inr S))
  else (
    gd (inb x2 8) <|
    nm (pA S 3 3 x2.toNatClampNeg x1) fun S_4 =>
    gd (inb x2 8) <|
    gd (inb x2 8) <|
    nm (x1 * (((gA S_4 3 2 x2.toNatClampNeg) - (gA S_4 3 1 x2.toNatClampNeg)) + (1 : Int32))) fun x1_7 =>
    nm (x2 + (-1 : Int32)) fun x2_8 =>
    some (.inl (S_4, x1_7, x2_8)))
noncomputable def f_Book_setStrides (S : St) : Option St :=
  nm ((if (6 : Int32) < (gI S 3 10) then (6 : Int32) else (gI S 3 10)) - (1 : Int32)) fun x2_1 =>
  bd (wh (un3 Book_setStrides_l14) (S, (1 : Int32), x2_1)) fun S_9 =>
  some S_9
