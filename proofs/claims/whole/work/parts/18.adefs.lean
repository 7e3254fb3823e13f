noncomputable def kMark (S : St) : Nat := if gI S 4 13 = 0 then (match f_Chart_roomFor (gI S 5 11) with
  | some x => if x ≤ nI (gN S 4 5) then 0 else x.toNatClampNeg + x.toNatClampNeg
  | none => 0) else 0
def kTell (S : St) : Nat := if nI (gN S 4 5) ≤ nI (gN S 4 6) then 0 else (nI (gN S 4 5)).toNatClampNeg
noncomputable def kBin (S : St) (x1 : Int32) : Nat := match f_Book_has S 2 x1 with
  | some v => if v = 0 then 0 else kMark S
  | none => 0
noncomputable def kCross (S : St) (x1 x2 : Int32) : Nat := match f_Book_has S 2 x1 with
  | some v => if v = 0 then 0 else (match f_Book_has S 2 x2 with
    | some w => if w = 0 then 0 else kMark S
    | none => 0)
  | none => 0
noncomputable def kAlone (S : St) (x1 : Int32) : Nat := match f_Book_has S 0 x1 with
  | some v => if v = 0 then 0 else (match f_Chart_isOn S x1 with
    | some w => if w = 0 then 0 else kMark S
    | none => 0)
  | none => 0
noncomputable def kRows (S : St) (x1 : Int32) : Nat := if x1 < 1 then 0 else if x1 ≤ 10 then kMark S else 0
noncomputable def Scanner_wordOrName_l2 (S : St) (x1 : Int32) : Option (Int32 ⊕ Int32) :=
  if (nI 13) ≤ x1 then (
    some (.inr (2 : Int32)))
  else (
    gd (inb x1 13) <|
    if (lg_cmp (wdF x1.toNatClampNeg) (gL S 2 6)) = 0 then (
      some (.inr ((14 : Int32) + x1)))
    else (
      nm (x1 + (1 : Int32)) fun x1_4 =>
      some (.inl x1_4)))
noncomputable def f_Scanner_wordOrName (S : St) : Option Int32 :=
  wh (Scanner_wordOrName_l2 S) (0 : Int32)
noncomputable def Scanner_scanName_j46_l5 (S : St) : Option (St ⊕ St) :=
  gd (inb (gI S 2 2) 2000) <|
  nm (pL S 2 6 (((gL S 2 6) <<< ((8 : Int32).toInt64 &&& 63)) ||| ((gA S 0 0 (gI S 2 2).toNatClampNeg).toInt64))) fun S_12 =>
  nm (pI S_12 2 2 ((gI S_12 2 2) + (1 : Int32))) fun S_13 =>
  some (.inl S_13)
noncomputable def Scanner_scanName_l5 (S : St) : Option (St ⊕ St) :=
  if (gI S 2 1) ≤ (gI S 2 2) then (
    some (.inr S))
  else (
    gd (inb (gI S 2 2) 2000) <|
    bd (f_Scanner_isLetter (gA S 0 0 (gI S 2 2).toNatClampNeg)) fun v_5 =>
    if v_5 = 0 then (
      gd (inb (gI S 2 2) 2000) <|
      bd (f_Scanner_isDigit (gA S 0 0 (gI S 2 2).toNatClampNeg)) fun v_9 =>
      if v_9 = 0 then (
        some (.inr S))
      else (
        Scanner_scanName_j46_l5 S))
    else (
      Scanner_scanName_j46_l5 S))
noncomputable def Scanner_scanName_j104 (S : St) (t1 : Int32) : Option St :=
  nm (pI S 2 3 t1) fun S_19 =>
  some S_19
noncomputable def Scanner_scanName_j81 (S : St) : Option St :=
  if ((gI S 2 2) - (gI S 2 4)) ≤ (8 : Int32) then (
    bd (f_Scanner_wordOrName S) fun v_18 =>
    Scanner_scanName_j104 S v_18)
  else (
    Scanner_scanName_j104 S (1 : Int32))
noncomputable def f_Scanner_scanName (S : St) : Option St :=
  nm (pL S 2 6 (0 : Int64)) fun S_1 =>
  bd (wh Scanner_scanName_l5 S_1) fun S_14 =>
  Scanner_scanName_j81 S_14
noncomputable def Scanner_advance_l0 (S : St) : Option (St ⊕ St) :=
  if (gI S 2 1) ≤ (gI S 2 2) then (
    some (.inr S))
  else (
    gd (inb (gI S 2 2) 2000) <|
    bd (f_Scanner_isBlank (gA S 0 0 (gI S 2 2).toNatClampNeg)) fun v_4 =>
    if v_4 = 0 then (
      some (.inr S))
    else (
      nm (pI S 2 2 ((gI S 2 2) + (1 : Int32))) fun S_6 =>
      some (.inl S_6)))
noncomputable def Scanner_advance_j123 (S : St) : Option St :=
  some S
noncomputable def Scanner_advance_j39 (S : St) : Option St :=
  nm (pI S 2 4 (gI S 2 2)) fun S_9 =>
  if (gI S_9 2 2) < (gI S_9 2 1) then (
    gd (inb (gI S_9 2 2) 2000) <|
    bd (f_Scanner_isLetter (gA S_9 0 0 (gI S_9 2 2).toNatClampNeg)) fun v_13 =>
    if v_13 = 0 then (
      gd (inb (gI S_9 2 2) 2000) <|
      bd (f_Scanner_isDigit (gA S_9 0 0 (gI S_9 2 2).toNatClampNeg)) fun v_17 =>
      if v_17 = 0 then (
        gd (inb (gI S_9 2 2) 2000) <|
        bd (f_Scanner_scanSign S_9 (gA S_9 0 0 (gI S_9 2 2).toNatClampNeg)) fun S_21 =>
        Scanner_advance_j123 S_21)
      else (
        bd (f_Scanner_scanInt S_9) fun S_23 =>
        Scanner_advance_j123 S_23))
    else (
      bd (f_Scanner_scanName S_9) fun S_25 =>
      Scanner_advance_j123 S_25))
  else (
    nm (pI S_9 2 3 (0 : Int32)) fun S_26 =>
    Scanner_advance_j123 S_26)
noncomputable def f_Scanner_advance (S : St) : Option St :=
  bd (wh Scanner_advance_l0 S) fun S_7 =>
  Scanner_advance_j39 S_7
noncomputable def f_Scanner_begin (S : St) (x2 : Int32) : Option St :=
  nm (pI S 2 1 (if (0 : Int32) < (if (nI 2000) < x2 then (nI 2000) else x2) then (if (nI 2000) < x2 then (nI 2000) else x2) else (0 : Int32))) fun S_1 =>
  nm (pI S_1 2 2 (0 : Int32)) fun S_2 =>
  bd (f_Scanner_advance S_2) fun S_4 =>
  some S_4
noncomputable def Reader_understand_j132_l48 (S : St) (x3 : Int32) : Option ((St × Int32) ⊕ St) :=
  nm (x3 + (1 : Int32)) fun x3_27 =>
  some (.inl (S, x3_27))
noncomputable def Reader_understand_j117_l48 (S : St) (x3 : Int32) : Option ((St × Int32) ⊕ St) :=
  bd (f_Reader_refuse S (2 : Int32)) fun S_26 =>
  Reader_understand_j132_l48 S_26 x3
noncomputable def Reader_understand_l48 (S : St) (x3 : Int32) : Option ((St × Int32) ⊕ St) :=
  if (400 : Int32) < x3 then (
    some (.inr S))
  else (
    if (gI S 1 4) = 0 then (
      if (gI S 2 3) = 0 then (
        some (.inr S))
      else (
        bd2 (f_Reader_goOn S (gI S 2 3)) fun v_15 S_16 =>
        nm (pI S_16 1 7 v_15) fun S_17 =>
        if (gI S_17 1 7) = (-1 : Int32) then (
          bd (f_Reader_refuse S_17 (1 : Int32)) fun S_24 =>
          Reader_understand_j132_l48 S_24 x3)
        else (
          if (gI S_17 1 13) = 0 then (
            if x3 = (400 : Int32) then (
              Reader_understand_j117_l48 S_17 x3)
            else (
              bd (f_Scanner_advance S_17) fun S_22 =>
              Reader_understand_j132_l48 S_22 x3))
          else (
            Reader_understand_j117_l48 S_17 x3))))
    else (
      some (.inr S)))
noncomputable def Reader_understand_j201 (S : St) : Option (Int32 × St) :=
  some ((gI S 1 4), S)
noncomputable def Reader_understand_j187 (S : St) : Option (Int32 × St) :=
  if (gI S 1 4) = 0 then (
    bd (f_Book_setStrides S) fun S_40 =>
    Reader_understand_j201 S_40)
  else (
    Reader_understand_j201 S)
noncomputable def Reader_understand_j157 (S : St) : Option (Int32 × St) :=
  if (gI S 1 4) = 0 then (
    if (gI S 1 5) = 0 then (
      Reader_understand_j187 S)
    else (
      nm (pI S 1 4 (gI S 1 5)) fun S_36 =>
      nm (pI S_36 1 3 (gI S_36 1 6)) fun S_37 =>
      Reader_understand_j187 S_37))
  else (
    Reader_understand_j187 S)
noncomputable def Reader_understand_j138 (S : St) : Option (Int32 × St) :=
  if (gI S 1 4) = 0 then (
    if (gI S 1 7) = 0 then (
      Reader_understand_j157 S)
    else (
      bd (f_Reader_refuse S (1 : Int32)) fun S_33 =>
      Reader_understand_j157 S_33))
  else (
    Reader_understand_j157 S)
noncomputable def f_Reader_understand (S : St) (x2 : Int32) : Option (Int32 × St) :=
  nm (pI S 1 4 (0 : Int32)) fun S_1 =>
  nm (pI S_1 1 3 (-1 : Int32)) fun S_2 =>
  nm (pI S_2 1 5 (0 : Int32)) fun S_3 =>
  nm (pI S_3 1 7 (0 : Int32)) fun S_4 =>
  nm (pI S_4 1 12 (0 : Int32)) fun S_5 =>
  nm (pI S_5 1 13 (0 : Int32)) fun S_6 =>
  bd (f_Book_clear S_6) fun S_8 =>
  bd (f_Scanner_begin S_8 x2) fun S_10 =>
  bd (wh (un2 Reader_understand_l48) (S_10, (0 : Int32))) fun S_28 =>
  Reader_understand_j138 S_28
noncomputable def Chart_markLaws_j42 (S : St) : Option St :=
  bd (f_Arrays_fill 4 5 S (0 : Int32)) fun S_15 =>
  bd (f_Chart_mark S_15 (0 : Int32)) fun S_17 =>
  bd (f_Chart_mark S_17 (1 : Int32)) fun S_19 =>
  bd (f_Chart_countStanding S_19) fun S_21 =>
  nm (pI S_21 4 13 (1 : Int32)) fun S_22 =>
  some S_22
noncomputable def f_Chart_markLaws (S : St) : Option St :=
  if (gI S 4 13) = 0 then (
    bd (f_Chart_roomFor (gI S 5 11)) fun v_3 =>
    if v_3 ≤ (nI (gN S 4 5)) then (
      Chart_markLaws_j42 S)
    else (
      gd (okn v_3) <|
      nm (pZ S 4 5 v_3.toNatClampNeg) fun S_7 =>
      gd (okn v_3) <|
      nm (pZ S_7 4 7 v_3.toNatClampNeg) fun S_10 =>
      Chart_markLaws_j42 S_10))
  else (
    some S)
noncomputable def f_Chart_refresh (S : St) : Option St :=
  if (gI S 4 16) = 0 then (
    bd (f_Chart_markLaws S) fun S_3 =>
    bd (f_Chart_gather S_3) fun S_6 =>
    bd (f_Chart_keepSoft S_6) fun S_8 =>
    bd (f_Chart_narrow S_8) fun S_10 =>
    nm (pI S_10 4 16 (1 : Int32)) fun S_11 =>
    some S_11)
  else (
    some S)
noncomputable def kSh (S : St) : Nat := kMark S + (match f_Chart_refresh S with
  | some S1 => if gI S1 4 15 = 0 then kTell S1 else 0
  | none => 0)
noncomputable def Chart_refreshBins_j21 (S : St) : Option St :=
  some S
noncomputable def f_Chart_refreshBins (S : St) : Option St :=
  bd (f_Chart_refresh S) fun S_2 =>
  if (gI S_2 4 14) = 0 then (
    bd (f_Chart_mark S_2 (2 : Int32)) fun S_6 =>
    nm (pI S_6 4 14 (1 : Int32)) fun S_7 =>
    Chart_refreshBins_j21 S_7)
  else (
    Chart_refreshBins_j21 S_2)
noncomputable def Chart_tellShares_j81_l64 (S : St) (x1 : Int32) (x2 : Int32) (x3 : Int32) (x5 : Int32) : Option ((St × Int32 × Int32 × Int32) ⊕ St) :=
  gd (inb x5 (gN S 4 6)) <|
  nm (pA S 4 6 x5.toNatClampNeg x3) fun S_18 =>
  bd2 (f_Book_advance S_18) fun v_20 S_21 =>
  nm (x5 + (1 : Int32)) fun x5_22 =>
  some (.inl (S_21, x3, v_20, x5_22))
noncomputable def Chart_tellShares_l64 (x1 : Int32) (x2 : Int32) (S : St) (x3 : Int32) (x4 : Int32) (x5 : Int32) : Option ((St × Int32 × Int32 × Int32) ⊕ St) :=
  if x1 ≤ x5 then (
    some (.inr S))
  else (
    if x2 < x4 then (
      Chart_tellShares_j81_l64 S x1 x2 x3 x5)
    else (
      bd2 (f_Chart_shareNow S) fun v_15 S_16 =>
      Chart_tellShares_j81_l64 S_16 x1 x2 v_15 x5))
noncomputable def Chart_tellShares_j24 (S : St) : Option St :=
  nm (if (nI (gN S 4 6)) < (gI S 5 11) then (nI (gN S 4 6)) else (gI S 5 11)) fun x1_7 =>
  bd (f_Chart_reachOfShares S) fun v_9 =>
  bd (f_Book_spellFirst S) fun S_11 =>
  bd (wh (un4 (Chart_tellShares_l64 x1_7 v_9)) (S_11, (1 : Int32), (-1 : Int32), (0 : Int32))) fun S_23 =>
  some S_23
noncomputable def f_Chart_tellShares (S : St) : Option St :=
  if (nI (gN S 4 5)) ≤ (nI (gN S 4 6)) then (
    Chart_tellShares_j24 S)
  else (
    gd (okn (nI (gN S 4 5))) <|
    nm (pZ S 4 6 (nI (gN S 4 5)).toNatClampNeg) fun S_4 =>
    Chart_tellShares_j24 S_4)
noncomputable def Chart_refreshShares_j36 (S : St) : Option St :=
  some S
noncomputable def Chart_refreshShares_j20 (S : St) : Option St :=
  if (gI S 4 17) = 0 then (
    bd (f_Chart_addShares S) fun S_11 =>
    nm (pI S_11 4 17 (1 : Int32)) fun S_12 =>
    Chart_refreshShares_j36 S_12)
  else (
    Chart_refreshShares_j36 S)
noncomputable def f_Chart_refreshShares (S : St) : Option St :=
  bd (f_Chart_refresh S) fun S_2 =>
  if (gI S_2 4 15) = 0 then (
    bd (f_Chart_tellShares S_2) fun S_6 =>
    nm (pI S_6 4 15 (1 : Int32)) fun S_8 =>
    Chart_refreshShares_j20 S_8)
  else (
    Chart_refreshShares_j20 S_2)
noncomputable def Lots_alone_j26 (S : St) : Option (Int32 × St) :=
  some ((-1 : Int32), S)
noncomputable def f_Lots_alone (S : St) (x1 : Int32) : Option (Int32 × St) :=
  bd (f_Book_has S (0 : Int32) x1) fun v_2 =>
  if v_2 = 0 then (
    Lots_alone_j26 S)
  else (
    bd (f_Chart_isOn S x1) fun v_6 =>
    if v_6 = 0 then (
      Lots_alone_j26 S)
    else (
      bd (f_Chart_refresh S) fun S_9 =>
      bd (f_Chart_refusedByAlone S_9 x1) fun v_12 =>
      some (v_12, S_9)))
noncomputable def f_Lots_refreshBins (S : St) : Option St :=
  bd (f_Chart_refreshBins S) fun S_2 =>
  bd (f_Bins_refresh S_2) fun S_5 =>
  some S_5
noncomputable def f_Lots_best (S : St) : Option (Int32 × St) :=
  bd (f_Lots_refreshBins S) fun S_2 =>
  bd (f_Log_unmet S_2) fun v_5 =>
  bd (f_Bins_meetingMost S_2 v_5) fun v_7 =>
  some (v_7, S_2)
noncomputable def Lots_cross_j30 (S : St) : Option (Int32 × St) :=
  some ((-1 : Int32), S)
noncomputable def f_Lots_cross (S : St) (x1 : Int32) (x2 : Int32) : Option (Int32 × St) :=
  bd (f_Book_has S (2 : Int32) x1) fun v_2 =>
  if v_2 = 0 then (
    Lots_cross_j30 S)
  else (
    bd (f_Book_has S (2 : Int32) x2) fun v_6 =>
    if v_6 = 0 then (
      Lots_cross_j30 S)
    else (
      bd (f_Lots_refreshBins S) fun S_9 =>
      bd (f_Bins_meetingAll S_9 (((1 : Int32) <<< (x1 &&& 31)) ||| ((1 : Int32) <<< (x2 &&& 31)))) fun v_12 =>
      some (v_12, S_9)))
noncomputable def Lots_draw_j21 (S : St) : Option (Int32 × St) :=
  some ((-1 : Int32), S)
noncomputable def f_Lots_draw (S : St) (x1 : Int64) (x3 : Int32) : Option (Int32 × St) :=
  bd (f_Chart_refreshShares S) fun S_2 =>
  if x3 < 0 then (
    Lots_draw_j21 S_2)
  else (
    if 0 < (gI S_2 4 11) then (
      nm ((((x1 * (31 : Int64)) + (x3.toInt64)) + (1 : Int64)) * (2862933555777941757 : Int64)) fun x4_6 =>
      nm (x4_6 ^^^ (x4_6.toUInt64 >>> ((29 : Int32).toInt64.toUInt64 &&& Int64.toUInt64 63)).toInt64) fun x6_7 =>
      gd (nzL ((gI S_2 4 11).toInt64)) <|
      bd (f_Chart_drawnBy S_2 (((x6_7.toUInt64 >>> ((1 : Int32).toInt64.toUInt64 &&& Int64.toUInt64 63)).toInt64 - (x6_7.toUInt64 >>> ((1 : Int32).toInt64.toUInt64 &&& Int64.toUInt64 63)).toInt64 / ((gI S_2 4 11).toInt64) * ((gI S_2 4 11).toInt64)).toInt32)) fun v_10 =>
      bd (f_Chart_inputOf S_2 v_10) fun v_12 =>
      bd (f_Log_add S_2 v_12) fun S_14 =>
      nm (pI S_14 8 10 (0 : Int32)) fun S_15 =>
      some (v_10, S_15))
    else (
      Lots_draw_j21 S_2))
noncomputable def f_Lots_fallen (S : St) (x1 : Int32) : Option (Int32 × St) :=
  bd (f_Chart_refresh S) fun S_2 =>
  bd (f_Log_unlawful S_2 x1) fun v_5 =>
  some (v_5, S_2)
noncomputable def f_Lots_fill (S : St) : Option (Int32 × St) :=
  bd (f_Lots_refreshBins S) fun S_2 =>
  bd (f_Bins_plan S_2) fun S_5 =>
  bd (f_Bins_planSize S_5) fun v_7 =>
  some (v_7, S_5)
noncomputable def f_Lots_fills (S : St) (x1 : Int32) : Option (Int32 × St) :=
  bd (f_Lots_refreshBins S) fun S_2 =>
  bd (f_Bins_plan S_2) fun S_5 =>
  bd (f_Bins_planMember S_5 x1) fun v_7 =>
  some (v_7, S_5)
noncomputable def f_Lots_hits (S : St) (x1 : Int32) : Option (Int32 × St) :=
  bd (f_Book_has S (2 : Int32) x1) fun v_2 =>
  if v_2 = 0 then (
    some ((-1 : Int32), S))
  else (
    bd (f_Chart_refreshBins S) fun S_5 =>
    bd (f_Log_meeting S_5 x1) fun v_8 =>
    some (v_8, S_5))
noncomputable def f_Lots_kept (S : St) : Option (Int32 × St) :=
  bd (f_Chart_refresh S) fun S_2 =>
  some ((gI S_2 4 10), S_2)
noncomputable def f_Lots_lawful (S : St) : Option (Int32 × St) :=
  bd (f_Chart_refresh S) fun S_2 =>
  some ((gI S_2 4 9), S_2)
noncomputable def f_Lots_least (S : St) (x1 : Int32) : Option (Int32 × St) :=
  bd (f_Book_has S (2 : Int32) x1) fun v_2 =>
  if v_2 = 0 then (
    some ((-1 : Int32), S))
  else (
    bd (f_Chart_refreshBins S) fun S_5 =>
    bd (f_Bins_refreshLowest S_5) fun S_8 =>
    bd (f_Bins_lowest S_8 x1) fun v_10 =>
    some (v_10, S_8))
noncomputable def f_Lots_meets (S : St) (x1 : Int32) : Option (Int32 × St) :=
  bd (f_Book_has S (2 : Int32) x1) fun v_2 =>
  if v_2 = 0 then (
    some ((-1 : Int32), S))
  else (
    bd (f_Lots_refreshBins S) fun S_5 =>
    bd (f_Bins_meetingAll S_5 ((1 : Int32) <<< (x1 &&& 31))) fun v_8 =>
    some (v_8, S_5))
noncomputable def f_Lots_pick (S : St) (x1 : Int32) : Option (Int32 × St) :=
  bd (f_Chart_refreshShares S) fun S_2 =>
  bd (f_Chart_drawnBy S_2 x1) fun v_5 =>
  some (v_5, S_2)
noncomputable def f_Lots_quarrel (S : St) : Option (Int32 × St) :=
  bd (f_Chart_refresh S) fun S_2 =>
  bd (f_Chart_smallestQuarrel S_2) fun v_5 =>
  some (v_5, S_2)
noncomputable def Lots_rowsThereOf_j43 (S : St) : Option (Int32 × St) :=
  some ((0 : Int32), S)
noncomputable def Lots_rowsThereOf_j11 (S : St) : Option (Int32 × St) :=
  some ((0 : Int32), S)
noncomputable def f_Lots_rowsThereOf (S : St) (x1 : Int32) : Option (Int32 × St) :=
  if x1 < (1 : Int32) then (
    Lots_rowsThereOf_j11 S)
  else (
    if x1 ≤ (10 : Int32) then (
      bd (f_Chart_refresh S) fun S_5 =>
      if (gI S_5 4 9) < (1 : Int32) then (
        Lots_rowsThereOf_j43 S_5)
      else (
        if (gI S_5 4 9) ≤ (64 : Int32) then (
          bd (f_Chains_refresh S_5) fun S_10 =>
          some ((1 : Int32), S_10))
        else (
          Lots_rowsThereOf_j43 S_5)))
    else (
      Lots_rowsThereOf_j11 S))
noncomputable def Lots_row_j25 (S : St) : Option (Int32 × St) :=
  some ((-1 : Int32), S)
noncomputable def f_Lots_row (S : St) (x1 : Int32) (x2 : Int64) (x4 : Int32) : Option (Int32 × St) :=
  bd2 (f_Lots_rowsThereOf S x1) fun v_2 S_3 =>
  if v_2 = 0 then (
    Lots_row_j25 S_3)
  else (
    if (lg_cmp x2 (0 : Int64)) < 0 then (
      Lots_row_j25 S_3)
    else (
      if x4 < 0 then (
        Lots_row_j25 S_3)
      else (
        if x4 < x1 then (
          bd (f_Chains_member S_3 x1 x2 x4) fun v_10 =>
          some (v_10, S_3))
        else (
          Lots_row_j25 S_3))))
noncomputable def f_Lots_rows (S : St) (x1 : Int32) : Option (Int64 × St) :=
  bd2 (f_Lots_rowsThereOf S x1) fun v_2 S_3 =>
  if v_2 = 0 then (
    some ((-1 : Int64), S_3))
  else (
    bd (f_Chains_ofLength S_3 x1) fun v_7 =>
    some (v_7, S_3))
noncomputable def Lots_share_j34 (S : St) (t0 : Int32) : Option (Int32 × St) :=
  some (t0, S)
noncomputable def Lots_share_j22 (S : St) : Option (Int32 × St) :=
  Lots_share_j34 S (-1 : Int32)
noncomputable def f_Lots_share (S : St) (x1 : Int32) : Option (Int32 × St) :=
  bd (f_Chart_refreshShares S) fun S_2 =>
  if x1 < 0 then (
    Lots_share_j22 S_2)
  else (
    if x1 < (gI S_2 4 9) then (
      bd (f_Chart_shareOf S_2 x1) fun v_7 =>
      Lots_share_j34 S_2 v_7)
    else (
      Lots_share_j22 S_2))
noncomputable def f_Lots_sum (S : St) : Option (Int32 × St) :=
  bd (f_Chart_refreshShares S) fun S_2 =>
  some ((gI S_2 4 11), S_2)
noncomputable def Lots_value_j22 (S : St) : Option (Int32 × St) :=
  some ((-1 : Int32), S)
noncomputable def f_Lots_value (S : St) (x1 : Int32) (x2 : Int32) : Option (Int32 × St) :=
  bd (f_Chart_refresh S) fun S_2 =>
  if x1 < 0 then (
    Lots_value_j22 S_2)
  else (
    if x1 < (gI S_2 4 9) then (
      bd (f_Chart_inputOf S_2 x1) fun v_7 =>
      bd (f_Book_valueIn S_2 v_7 x2) fun v_9 =>
      some (v_9, S_2))
    else (
      Lots_value_j22 S_2))
