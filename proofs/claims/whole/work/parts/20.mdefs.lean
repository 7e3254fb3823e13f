noncomputable def Model_put_l3 (x1 : Int32) (S : St) (x2 : Int32) : Option ((St × Int32) ⊕ St) :=
  if x2 < 0 then (
    some (.inr S))
  else (
    gd (inb (gI S 0 2) 2000) <|
    nm (pA S 0 1 (gI S 0 2).toNatClampNeg (vp_nar .byte ((x1 >>> (x2 &&& 31)).toInt8.toInt32))) fun S_3 =>
    nm (pI S_3 0 2 ((gI S_3 0 2) + (1 : Int32))) fun S_4 =>
    nm (x2 + (-8 : Int32)) fun x2_5 =>
    some (.inl (S_4, x2_5)))
noncomputable def f_Model_put (S : St) (x1 : Int32) : Option St :=
  bd (wh (un2 (Model_put_l3 x1)) (S, (24 : Int32))) fun S_6 =>
  some S_6
noncomputable def f_Model_feed (S : St) (x1 : Int32) (x2 : Int32) (x3 : Int32) (x4 : Int32) (x5 : Int32) : Option (Int32 × St) :=
  if ((gI S 0 2) + (20 : Int32)) ≤ (2000 : Int32) then (
    bd (f_Model_put S x1) fun S_3 =>
    bd (f_Model_put S_3 x2) fun S_5 =>
    bd (f_Model_put S_5 x3) fun S_7 =>
    bd (f_Model_put S_7 x4) fun S_9 =>
    bd (f_Model_put S_9 x5) fun S_11 =>
    some ((gI S_11 0 2), S_11))
  else (
    some ((-1 : Int32), S))
noncomputable def Model_back_j12 (S : St) : Option (Int32 × St) :=
  some ((-1 : Int32), S)
noncomputable def f_Model_back (S : St) (x1 : Int32) : Option (Int32 × St) :=
  if x1 < 0 then (
    Model_back_j12 S)
  else (
    if x1 ≤ (gI S 0 2) then (
      nm (pI S 0 2 ((gI S 0 2) - x1)) fun S_3 =>
      some ((gI S_3 0 2), S_3))
    else (
      Model_back_j12 S))
noncomputable def Model_at_j22 (S : St) (t0 : Int32) : Option Int32 :=
  some t0
noncomputable def f_Model_at (S : St) (x1 : Int32) : Option Int32 :=
  if (gI S 0 4) ≤ x1 then (
    Model_at_j22 S (0 : Int32))
  else (
    gd (inb x1 2000) <|
    Model_at_j22 S ((gA S 0 3 x1.toNatClampNeg) &&& (255 : Int32)))
noncomputable def Model_isDigit_j17 (t0 : Int32) : Option Int32 :=
  gd (isB t0) <|
  some t0
noncomputable def Model_isDigit_j16 : Option Int32 :=
  Model_isDigit_j17 (0 : Int32)
noncomputable def f_Model_isDigit (x0 : Int32) : Option Int32 :=
  if x0 < (48 : Int32) then (
    Model_isDigit_j16)
  else (
    if (57 : Int32) < x0 then (
      Model_isDigit_j16)
    else (
      Model_isDigit_j17 (1 : Int32)))
noncomputable def Model_isLetter_j17 (t0 : Int32) : Option Int32 :=
  gd (isB t0) <|
  some t0
noncomputable def Model_isLetter_j16 : Option Int32 :=
  Model_isLetter_j17 (0 : Int32)
noncomputable def f_Model_isLetter (x0 : Int32) : Option Int32 :=
  if x0 < (97 : Int32) then (
    Model_isLetter_j16)
  else (
    if (122 : Int32) < x0 then (
      Model_isLetter_j16)
    else (
      Model_isLetter_j17 (1 : Int32)))
noncomputable def Model_more_j38 (t0 : Int64) : Option Int64 :=
  some t0
noncomputable def Model_more_j36 (t0 : Int64) (t1 : Int32) : Option Int64 :=
  Model_more_j38 (t0 + (t1.toInt64))
noncomputable def f_Model_more (x0 : Int64) (x2 : Int32) : Option Int64 :=
  if x2 = 0 then (
    Model_more_j38 x0)
  else (
    bd (f_Model_isDigit x2) fun v_3 =>
    if v_3 = 0 then (
      Model_more_j36 ((37 : Int64) * x0) ((x2 - (97 : Int32)) + (1 : Int32)))
    else (
      Model_more_j36 ((37 : Int64) * x0) ((x2 - (48 : Int32)) + (27 : Int32))))
noncomputable def f_Model_word (x0 : Int32) (x1 : Int32) (x2 : Int32) (x3 : Int32) (x4 : Int32) (x5 : Int32) : Option Int64 :=
  bd (f_Model_more (0 : Int64) x0) fun v_2 =>
  bd (f_Model_more v_2 x1) fun v_4 =>
  bd (f_Model_more v_4 x2) fun v_6 =>
  bd (f_Model_more v_6 x3) fun v_8 =>
  bd (f_Model_more v_8 x4) fun v_10 =>
  bd (f_Model_more v_10 x5) fun v_12 =>
  some v_12
noncomputable def f_Model_token (S : St) (x1 : Int32) (x2 : Int32) (x3 : Int32) (x4 : Int64) : Option St :=
  gd (inb (gI S 0 10) 403) <|
  nm (pA S 0 5 (gI S 0 10).toNatClampNeg x1) fun S_2 =>
  gd (inb (gI S_2 0 10) 403) <|
  nm (pA S_2 0 6 (gI S_2 0 10).toNatClampNeg x2) fun S_4 =>
  gd (inb (gI S_4 0 10) 403) <|
  nm (pA S_4 0 7 (gI S_4 0 10).toNatClampNeg x3) fun S_6 =>
  gd (inb (gI S_6 0 10) 403) <|
  nm (pB S_6 0 8 (gI S_6 0 10).toNatClampNeg x4) fun S_8 =>
  nm (pI S_8 0 10 ((gI S_8 0 10) + (1 : Int32))) fun S_9 =>
  some S_9
noncomputable def Model_sign_j166 (S : St) (t0 : Int32) : Option (Int32 × St) :=
  some (t0, S)
noncomputable def Model_sign_j147 (S : St) (x1 : Int32) (x4 : Int32) (x5 : Int32) : Option (Int32 × St) :=
  bd (f_Model_token S x5 x1 (0 : Int32) (0 : Int64)) fun S_14 =>
  if x4 ≤ 0 then (
    Model_sign_j166 S_14 (1 : Int32))
  else (
    Model_sign_j166 S_14 (2 : Int32))
noncomputable def Model_sign_j42 (S : St) (x1 : Int32) (x2 : Int32) (t0 : Int32) : Option (Int32 × St) :=
  if t0 ≤ 0 then (
    if x2 = (59 : Int32) then (
      Model_sign_j147 S x1 t0 (8 : Int32))
    else (
      if x2 = (40 : Int32) then (
        Model_sign_j147 S x1 t0 (9 : Int32))
      else (
        if x2 = (41 : Int32) then (
          Model_sign_j147 S x1 t0 (10 : Int32))
        else (
          if x2 = (43 : Int32) then (
            Model_sign_j147 S x1 t0 (11 : Int32))
          else (
            if x2 = (45 : Int32) then (
              Model_sign_j147 S x1 t0 (12 : Int32))
            else (
              if x2 = (42 : Int32) then (
                Model_sign_j147 S x1 t0 (13 : Int32))
              else (
                if x2 = (60 : Int32) then (
                  Model_sign_j147 S x1 t0 (6 : Int32))
                else (
                  Model_sign_j147 S x1 t0 (3 : Int32)))))))))
  else (
    Model_sign_j147 S x1 t0 t0)
noncomputable def f_Model_sign (S : St) (x1 : Int32) (x2 : Int32) (x3 : Int32) : Option (Int32 × St) :=
  if x3 = (61 : Int32) then (
    if x2 = (61 : Int32) then (
      Model_sign_j42 S x1 x2 (4 : Int32))
    else (
      if x2 = (33 : Int32) then (
        Model_sign_j42 S x1 x2 (5 : Int32))
      else (
        if x2 = (60 : Int32) then (
          Model_sign_j42 S x1 x2 (7 : Int32))
        else (
          Model_sign_j42 S x1 x2 (0 : Int32)))))
  else (
    Model_sign_j42 S x1 x2 (0 : Int32))
noncomputable def Model_cut_j257_l221 (S : St) (x1 : Int32) (x3 : Int32) (x4 : Int32) : Option ((Int32 × Int32) ⊕ (Int32 × Int32)) :=
  nm (x3 + (1 : Int32)) fun x3_31 =>
  some (.inl (x3_31, x4))
noncomputable def Model_cut_l221 (S : St) (x1 : Int32) (x3 : Int32) (x4 : Int32) : Option ((Int32 × Int32) ⊕ (Int32 × Int32)) :=
  bd (f_Model_at S (x1 + x3)) fun v_23 =>
  bd (f_Model_isDigit v_23) fun v_25 =>
  if v_25 = 0 then (
    some (.inr (x3, x4)))
  else (
    if (4 : Int32) ≤ x3 then (
      Model_cut_j257_l221 S x1 x3 x4)
    else (
      bd (f_Model_at S (x1 + x3)) fun v_29 =>
      nm ((((10 : Int32) * x4) + v_29) - (48 : Int32)) fun x4_30 =>
      Model_cut_j257_l221 S x1 x3 x4_30))
noncomputable def Model_cut_j131_l85 (S : St) (x1 : Int32) (x3 : Int32) (x4 : Int64) : Option ((Int32 × Int64) ⊕ (Int32 × Int64)) :=
  nm (x3 + (1 : Int32)) fun x3_51 =>
  some (.inl (x3_51, x4))
noncomputable def Model_cut_j111_l85 (S : St) (x1 : Int32) (x3 : Int32) (x4 : Int64) : Option ((Int32 × Int64) ⊕ (Int32 × Int64)) :=
  if (8 : Int32) ≤ x3 then (
    Model_cut_j131_l85 S x1 x3 x4)
  else (
    bd (f_Model_at S (x1 + x3)) fun v_48 =>
    bd (f_Model_more x4 v_48) fun v_50 =>
    Model_cut_j131_l85 S x1 x3 v_50)
noncomputable def Model_cut_l85 (S : St) (x1 : Int32) (x3 : Int32) (x4 : Int64) : Option ((Int32 × Int64) ⊕ (Int32 × Int64)) :=
  bd (f_Model_at S (x1 + x3)) fun v_37 =>
  bd (f_Model_isLetter v_37) fun v_39 =>
  if v_39 = 0 then (
    bd (f_Model_at S (x1 + x3)) fun v_42 =>
    bd (f_Model_isDigit v_42) fun v_44 =>
    if v_44 = 0 then (
      some (.inr (x3, x4)))
    else (
      Model_cut_j111_l85 S x1 x3 x4))
  else (
    Model_cut_j111_l85 S x1 x3 x4)
noncomputable def Model_cut_j186_l159 (S : St) (x1 : Int32) (x3 : Int32) (x4 : Int64) (x6 : Int32) (x7 : Int32) : Option ((Int32 × Int32) ⊕ Int32) :=
  nm (x7 + (1 : Int32)) fun x7_64 =>
  some (.inl (x6, x7_64))
noncomputable def Model_cut_l159 (S : St) (x1 : Int32) (x3 : Int32) (x4 : Int64) (x6 : Int32) (x7 : Int32) : Option ((Int32 × Int32) ⊕ Int32) :=
  if (13 : Int32) ≤ x7 then (
    some (.inr x6))
  else (
    gd (inb x7 16) <|
    if (lg_cmp (gB S 0 9 x7.toNatClampNeg) x4) = 0 then (
      nm ((20 : Int32) + x7) fun x6_63 =>
      Model_cut_j186_l159 S x1 x3 x4 x6_63 x7)
    else (
      Model_cut_j186_l159 S x1 x3 x4 x6 x7))
noncomputable def Model_cut_j304_l7 (S : St) (x1 : Int32) : Option ((St × Int32) ⊕ St) :=
  some (.inl (S, x1))
noncomputable def Model_cut_j274_l7 (S : St) (x1 : Int32) (x3 : Int32) (x4 : Int32) (t1 : Int32) : Option ((St × Int32) ⊕ St) :=
  bd (f_Model_token S t1 x1 x4 (0 : Int64)) fun S_71 =>
  nm (x1 + x3) fun x1_72 =>
  Model_cut_j304_l7 S_71 x1_72
noncomputable def Model_cut_j192_l7 (S : St) (x1 : Int32) (x3 : Int32) (x4 : Int64) (x6 : Int32) : Option ((St × Int32) ⊕ St) :=
  bd (f_Model_token S x6 x1 (0 : Int32) x4) fun S_68 =>
  nm (x1 + x3) fun x1_69 =>
  Model_cut_j304_l7 S_68 x1_69
noncomputable def Model_cut_j148_l7 (S : St) (x1 : Int32) (x3 : Int32) (x4 : Int64) (t0 : Int32) : Option ((St × Int32) ⊕ St) :=
  if (6 : Int32) < x3 then (
    Model_cut_j192_l7 S x1 x3 x4 t0)
  else (
    bd (wh (un2 (Model_cut_l159 S x1 x3 x4)) (t0, (0 : Int32))) fun x6_65 =>
    Model_cut_j192_l7 S x1 x3 x4 x6_65)
noncomputable def Model_cut_j67_l7 (S : St) (x1 : Int32) : Option ((St × Int32) ⊕ St) :=
  nm (x1 + (1 : Int32)) fun x1_58 =>
  Model_cut_j304_l7 S x1_58
noncomputable def Model_cut_l7 (S : St) (x1 : Int32) : Option ((St × Int32) ⊕ St) :=
  if (400 : Int32) < (gI S 0 10) then (
    some (.inr S))
  else (
    bd (f_Model_at S x1) fun v_4 =>
    if x1 < (gI S 0 4) then (
      if v_4 = (9 : Int32) then (
        Model_cut_j67_l7 S x1)
      else (
        if v_4 = (10 : Int32) then (
          Model_cut_j67_l7 S x1)
        else (
          if v_4 = (13 : Int32) then (
            Model_cut_j67_l7 S x1)
          else (
            if v_4 = (32 : Int32) then (
              Model_cut_j67_l7 S x1)
            else (
              bd (f_Model_isLetter v_4) fun v_11 =>
              if v_11 = 0 then (
                bd (f_Model_isDigit v_4) fun v_14 =>
                if v_14 = 0 then (
                  bd (f_Model_at S (x1 + (1 : Int32))) fun v_17 =>
                  bd2 (f_Model_sign S x1 v_4 v_17) fun v_19 S_20 =>
                  nm (x1 + v_19) fun x1_21 =>
                  Model_cut_j304_l7 S_20 x1_21)
                else (
                  bd2 (wh (un2 (Model_cut_l221 S x1)) ((0 : Int32), (0 : Int32))) fun x3_32 x4_33 =>
                  if x3_32 ≤ (4 : Int32) then (
                    Model_cut_j274_l7 S x1 x3_32 x4_33 (2 : Int32))
                  else (
                    Model_cut_j274_l7 S x1 x3_32 x4_33 (3 : Int32))))
              else (
                bd2 (wh (un2 (Model_cut_l85 S x1)) ((0 : Int32), (0 : Int64))) fun x3_52 x4_53 =>
                if x3_52 ≤ (8 : Int32) then (
                  Model_cut_j148_l7 S x1 x3_52 x4_53 (1 : Int32))
                else (
                  Model_cut_j148_l7 S x1 x3_52 x4_53 (3 : Int32))))))))
    else (
      bd (f_Model_token S (0 : Int32) (gI S 0 4) (0 : Int32) (0 : Int64)) fun S_57 =>
      some (.inr S_57)))
noncomputable def f_Model_cut (S : St) : Option St :=
  nm (pI S 0 10 (0 : Int32)) fun S_1 =>
  wh (un2 Model_cut_l7) (S_1, (0 : Int32))
noncomputable def Model_is_j25 (S : St) (t0 : Int32) : Option Int32 :=
  gd (isB t0) <|
  some t0
noncomputable def Model_is_j24 (S : St) : Option Int32 :=
  Model_is_j25 S (0 : Int32)
noncomputable def f_Model_is (S : St) (x1 : Int32) : Option Int32 :=
  if (gI S 0 13) = 0 then (
    gd (inb (gI S 0 11) 403) <|
    if (gA S 0 5 (gI S 0 11).toNatClampNeg) = x1 then (
      Model_is_j25 S (1 : Int32))
    else (
      Model_is_j24 S))
  else (
    Model_is_j24 S)
noncomputable def f_Model_fail (S : St) (x1 : Int32) : Option St :=
  if (gI S 0 13) ≤ 0 then (
    nm (pI S 0 13 x1) fun S_2 =>
    gd (inb (gI S_2 0 11) 403) <|
    nm (pI S_2 0 14 (gA S_2 0 6 (gI S_2 0 11).toNatClampNeg)) fun S_4 =>
    some S_4)
  else (
    some S)
noncomputable def Model_wrong_j46 (S : St) (x1 : Int32) (x3 : Int32) : Option St :=
  nm (pI S 0 15 x1) fun S_8 =>
  nm (pI S_8 0 16 x3) fun S_9 =>
  some S_9
noncomputable def Model_wrong_j45 (S : St) : Option St :=
  some S
noncomputable def f_Model_wrong (S : St) (x1 : Int32) (x2 : Int32) : Option St :=
  gd (inb x2 403) <|
  nm (gA S 0 6 x2.toNatClampNeg) fun x3_2 =>
  if 0 < (gI S 0 13) then (
    Model_wrong_j45 S)
  else (
    if (gI S 0 15) = 0 then (
      Model_wrong_j46 S x1 x3_2)
    else (
      if (gI S 0 16) < x3_2 then (
        Model_wrong_j45 S)
      else (
        if x3_2 = (gI S 0 16) then (
          if x1 < (gI S 0 15) then (
            Model_wrong_j46 S x1 x3_2)
          else (
            Model_wrong_j45 S))
        else (
          Model_wrong_j46 S x1 x3_2))))
noncomputable def Model_next_j28 (S : St) : Option St :=
  some S
noncomputable def f_Model_next (S : St) : Option St :=
  if (gI S 0 11) = (400 : Int32) then (
    bd (f_Model_fail S (2 : Int32)) fun S_4 =>
    Model_next_j28 S_4)
  else (
    nm (pI S 0 11 ((gI S 0 11) + (1 : Int32))) fun S_2 =>
    Model_next_j28 S_2)
noncomputable def Model_must_j20 (S : St) : Option St :=
  some S
noncomputable def f_Model_must (S : St) (x1 : Int32) : Option St :=
  bd (f_Model_is S x1) fun v_2 =>
  if v_2 = 0 then (
    bd (f_Model_fail S (1 : Int32)) fun S_5 =>
    Model_must_j20 S_5)
  else (
    bd (f_Model_next S) fun S_7 =>
    Model_must_j20 S_7)
noncomputable def Model_tellField_j173_l128 (S : St) (x1 : Int32) (x2 : Int32) (x3 : Int32) (x4 : Int32) (x5 : Int32) : Option ((St × Int32) ⊕ St) :=
  nm (x5 + (1 : Int32)) fun x5_38 =>
  some (.inl (S, x5_38))
noncomputable def Model_tellField_l128 (x1 : Int32) (x2 : Int32) (x3 : Int32) (x4 : Int32) (S : St) (x5 : Int32) : Option ((St × Int32) ⊕ St) :=
  gd (inb (gI S 0 19) 2) <|
  if (((6 : Int32) * (gI S 0 19)) + (gA S 0 20 (gI S 0 19).toNatClampNeg)) ≤ x5 then (
    some (.inr S))
  else (
    gd (inb x5 12) <|
    gd (inb x1 403) <|
    if (lg_cmp (gB S 0 21 x5.toNatClampNeg) (gB S 0 8 x1.toNatClampNeg)) = 0 then (
      bd (f_Model_wrong S (3 : Int32) x1) fun S_37 =>
      Model_tellField_j173_l128 S_37 x1 x2 x3 x4 x5)
    else (
      Model_tellField_j173_l128 S x1 x2 x3 x4 x5))
noncomputable def Model_tellField_j296 (S : St) : Option St :=
  gd (inb (gI S 0 19) 2) <|
  gd (inb (gI S 0 19) 2) <|
  nm (pA S 0 20 (gI S 0 19).toNatClampNeg ((gA S 0 20 (gI S 0 19).toNatClampNeg) + (1 : Int32))) fun S_62 =>
  some S_62
noncomputable def Model_tellField_j253 (S : St) (x1 : Int32) (x5 : Int32) (t1 : Int32) (t2 : Int32) : Option St :=
  gd (inb t1 12) <|
  nm (pA S 0 23 t1.toNatClampNeg t2) fun S_53 =>
  gd (inb x5 12) <|
  nm (pL S_53 0 24 ((gL S_53 0 24) * ((gA S_53 0 23 x5.toNatClampNeg).toInt64))) fun S_55 =>
  if (lg_cmp (gL S_55 0 24) (32768 : Int64)) ≤ 0 then (
    Model_tellField_j296 S_55)
  else (
    bd (f_Model_wrong S_55 (6 : Int32) x1) fun S_58 =>
    nm (pL S_58 0 24 (32769 : Int64)) fun S_59 =>
    Model_tellField_j296 S_59)
noncomputable def Model_tellField_j191 (S : St) (x1 : Int32) (x2 : Int32) (x4 : Int32) : Option St :=
  gd (inb (gI S 0 19) 2) <|
  nm (((6 : Int32) * (gI S 0 19)) + (gA S 0 20 (gI S 0 19).toNatClampNeg)) fun x5_45 =>
  gd (inb x1 403) <|
  gd (inb x5_45 12) <|
  nm (pB S 0 21 x5_45.toNatClampNeg (gB S 0 8 x1.toNatClampNeg)) fun S_48 =>
  gd (inb x5_45 12) <|
  nm (pA S_48 0 22 x5_45.toNatClampNeg x2) fun S_50 =>
  if x2 ≤ x4 then (
    Model_tellField_j253 S_50 x1 x5_45 x5_45 ((x4 - x2) + (1 : Int32)))
  else (
    Model_tellField_j253 S_50 x1 x5_45 x5_45 (1 : Int32))
noncomputable def Model_tellField_j98 (S : St) (x1 : Int32) (x2 : Int32) (x3 : Int32) (t0 : Int32) : Option St :=
  bd (f_Model_must S (2 : Int32)) fun S_26 =>
  bd (f_Model_must S_26 (8 : Int32)) fun S_28 =>
  if (gI S_28 0 13) ≤ 0 then (
    nm ((6 : Int32) * (gI S_28 0 19)) fun x5_30 =>
    bd (wh (un2 (Model_tellField_l128 x1 x2 x3 t0)) (S_28, x5_30)) fun S_39 =>
    if x2 ≤ t0 then (
      Model_tellField_j191 S_39 x1 x2 t0)
    else (
      bd (f_Model_wrong S_39 (5 : Int32) x3) fun S_43 =>
      Model_tellField_j191 S_43 x1 x2 t0))
  else (
    some S_28)
noncomputable def Model_tellField_j60 (S : St) (x1 : Int32) (t0 : Int32) : Option St :=
  bd (f_Model_must S (2 : Int32)) fun S_17 =>
  bd (f_Model_must S_17 (22 : Int32)) fun S_19 =>
  nm (gI S_19 0 11) fun x3_20 =>
  bd (f_Model_is S_19 (2 : Int32)) fun v_22 =>
  if v_22 = 0 then (
    Model_tellField_j98 S_19 x1 t0 x3_20 (0 : Int32))
  else (
    gd (inb (gI S_19 0 11) 403) <|
    Model_tellField_j98 S_19 x1 t0 x3_20 (gA S_19 0 7 (gI S_19 0 11).toNatClampNeg))
noncomputable def Model_tellField_j19 (S : St) : Option St :=
  bd (f_Model_next S) fun S_6 =>
  nm (gI S_6 0 11) fun x1_7 =>
  bd (f_Model_must S_6 (1 : Int32)) fun S_9 =>
  bd (f_Model_must S_9 (21 : Int32)) fun S_11 =>
  bd (f_Model_is S_11 (2 : Int32)) fun v_13 =>
  if v_13 = 0 then (
    Model_tellField_j60 S_11 x1_7 (0 : Int32))
  else (
    gd (inb (gI S_11 0 11) 403) <|
    Model_tellField_j60 S_11 x1_7 (gA S_11 0 7 (gI S_11 0 11).toNatClampNeg))
noncomputable def f_Model_tellField (S : St) : Option St :=
  gd (inb (gI S 0 19) 2) <|
  if (gA S 0 20 (gI S 0 19).toNatClampNeg) = (6 : Int32) then (
    bd (f_Model_fail S (2 : Int32)) fun S_4 =>
    Model_tellField_j19 S_4)
  else (
    Model_tellField_j19 S)
noncomputable def f_Model_emit (S : St) (x1 : Int32) (x2 : Int32) : Option St :=
  gd (inb (gI S 0 38) 1000) <|
  nm (pA S 0 39 (gI S 0 38).toNatClampNeg x1) fun S_2 =>
  gd (inb (gI S_2 0 38) 1000) <|
  nm (pA S_2 0 40 (gI S_2 0 38).toNatClampNeg x2) fun S_4 =>
  nm (pI S_4 0 38 ((gI S_4 0 38) + (1 : Int32))) fun S_5 =>
  some S_5
noncomputable def Model_named_l2 (S : St) (x1 : Int32) (x2 : Int32) (x3 : Int32) : Option (Int32 ⊕ St) :=
  gd (inb (gI S 0 19) 2) <|
  if (gA S 0 20 (gI S 0 19).toNatClampNeg) ≤ x3 then (
    bd (f_Model_wrong S (4 : Int32) x1) fun S_4 =>
    bd (f_Model_emit S_4 (0 : Int32) (0 : Int32)) fun S_6 =>
    some (.inr S_6))
  else (
    gd (inb (((6 : Int32) * (gI S 0 19)) + x3) 12) <|
    gd (inb x1 403) <|
    if (lg_cmp (gB S 0 21 (((6 : Int32) * (gI S 0 19)) + x3).toNatClampNeg) (gB S 0 8 x1.toNatClampNeg)) = 0 then (
      bd (f_Model_emit S x2 x3) fun S_11 =>
      some (.inr S_11))
    else (
      nm (x3 + (1 : Int32)) fun x3_12 =>
      some (.inl x3_12)))
noncomputable def f_Model_named (S : St) (x1 : Int32) (x2 : Int32) : Option St :=
  wh (Model_named_l2 S x1 x2) (0 : Int32)
noncomputable def Model_unit_j83 (S : St) : Option St :=
  some S
noncomputable def Model_unit_j60 (S : St) (x1 : Int32) : Option St :=
  nm (gI S 0 11) fun x2_17 =>
  bd (f_Model_must S (1 : Int32)) fun S_19 =>
  if (gI S_19 0 13) = 0 then (
    bd (f_Model_named S_19 x2_17 x1) fun S_22 =>
    Model_unit_j83 S_22)
  else (
    Model_unit_j83 S_19)
noncomputable def Model_unit_j56 (S : St) (x1 : Int32) : Option St :=
  bd (f_Model_next S) fun S_16 =>
  Model_unit_j60 S_16 x1
noncomputable def f_Model_unit (S : St) : Option St :=
  bd (f_Model_is S (2 : Int32)) fun v_2 =>
  if v_2 = 0 then (
    bd (f_Model_is S (32 : Int32)) fun v_5 =>
    if v_5 = 0 then (
      Model_unit_j60 S (1 : Int32))
    else (
      if (gI S 0 41) = 0 then (
        bd (f_Model_wrong S (5 : Int32) (gI S 0 11)) fun S_9 =>
        Model_unit_j56 S_9 (2 : Int32))
      else (
        Model_unit_j56 S (2 : Int32))))
  else (
    gd (inb (gI S 0 11) 403) <|
    bd (f_Model_emit S (0 : Int32) (gA S 0 7 (gI S 0 11).toNatClampNeg)) fun S_12 =>
    bd (f_Model_next S_12) fun S_14 =>
    some S_14)
noncomputable def Model_comesOut_j101_l0 (S : St) (x1 : Int32) (t1 : Int32) : Option (St ⊕ St) :=
  bd (f_Model_emit S t1 (0 : Int32)) fun S_15 =>
  some (.inl S_15)
noncomputable def Model_comesOut_j59_l0 (S : St) (x1 : Int32) : Option (St ⊕ St) :=
  nm (pI S 0 43 ((gI S 0 43) - (1 : Int32))) fun S_9 =>
  gd (inb (gI S_9 0 43) 64) <|
  nm (gA S_9 0 42 (gI S_9 0 43).toNatClampNeg) fun x2_11 =>
  if x2_11 = (11 : Int32) then (
    Model_comesOut_j101_l0 S_9 x1 (3 : Int32))
  else (
    if x2_11 = (12 : Int32) then (
      Model_comesOut_j101_l0 S_9 x1 (4 : Int32))
    else (
      Model_comesOut_j101_l0 S_9 x1 (5 : Int32)))
noncomputable def Model_comesOut_l0 (x1 : Int32) (S : St) : Option (St ⊕ St) :=
  if (gI S 0 43) ≤ 0 then (
    some (.inr S))
  else (
    gd (inb ((gI S 0 43) - (1 : Int32)) 64) <|
    if (gA S 0 42 ((gI S 0 43) - (1 : Int32)).toNatClampNeg) = (13 : Int32) then (
      Model_comesOut_j59_l0 S x1)
    else (
      if x1 = 0 then (
        gd (inb ((gI S 0 43) - (1 : Int32)) 64) <|
        if (gA S 0 42 ((gI S 0 43) - (1 : Int32)).toNatClampNeg) = (11 : Int32) then (
          Model_comesOut_j59_l0 S x1)
        else (
          gd (inb ((gI S 0 43) - (1 : Int32)) 64) <|
          if (gA S 0 42 ((gI S 0 43) - (1 : Int32)).toNatClampNeg) = (12 : Int32) then (
            Model_comesOut_j59_l0 S x1)
          else (
            some (.inr S))))
      else (
        some (.inr S))))
noncomputable def Model_comesOut_j108 (S : St) : Option St :=
  some S
noncomputable def f_Model_comesOut (S : St) (x1 : Int32) : Option St :=
  bd (wh (Model_comesOut_l0 x1) S) fun S_16 =>
  Model_comesOut_j108 S_16
noncomputable def Model_expression_j46_l23 (S : St) (x1 : Int32) : Option (St ⊕ St) :=
  nm (pI S 0 12 ((gI S 0 12) + (1 : Int32))) fun S_11 =>
  bd (f_Model_next S_11) fun S_13 =>
  gd (inb (gI S_13 0 43) 64) <|
  nm (pA S_13 0 42 (gI S_13 0 43).toNatClampNeg (9 : Int32)) fun S_15 =>
  nm (pI S_15 0 43 ((gI S_15 0 43) + (1 : Int32))) fun S_16 =>
  some (.inl S_16)
noncomputable def Model_expression_l23 (x1 : Int32) (S : St) : Option (St ⊕ St) :=
  bd (f_Model_is S (9 : Int32)) fun v_6 =>
  if v_6 = 0 then (
    some (.inr S))
  else (
    if (gI S 0 12) = (6 : Int32) then (
      bd (f_Model_fail S (2 : Int32)) fun S_10 =>
      Model_expression_j46_l23 S_10 x1)
    else (
      Model_expression_j46_l23 S x1))
noncomputable def Model_expression_l96 (x1 : Int32) (S : St) : Option (St ⊕ St) :=
  bd (f_Model_is S (10 : Int32)) fun v_23 =>
  if v_23 = 0 then (
    some (.inr S))
  else (
    if (gI S 0 12) ≤ x1 then (
      some (.inr S))
    else (
      bd (f_Model_comesOut S (0 : Int32)) fun S_27 =>
      nm (pI S_27 0 43 ((gI S_27 0 43) - (1 : Int32))) fun S_28 =>
      nm (pI S_28 0 12 ((gI S_28 0 12) - (1 : Int32))) fun S_29 =>
      bd (f_Model_next S_29) fun S_31 =>
      some (.inl S_31)))
noncomputable def Model_expression_j253_l12 (S : St) : Option ((St × Int32) ⊕ St) :=
  some (.inr S)
noncomputable def Model_expression_j223_l12 (S : St) (x1 : Int32) (x2 : Int32) (x3 : Int32) (t1 : Int32) : Option ((St × Int32) ⊕ St) :=
  bd (f_Model_comesOut S t1) fun S_53 =>
  gd (inb (gI S_53 0 43) 64) <|
  nm (pA S_53 0 42 (gI S_53 0 43).toNatClampNeg x3) fun S_55 =>
  nm (pI S_55 0 43 ((gI S_55 0 43) + (1 : Int32))) fun S_56 =>
  bd (f_Model_next S_56) fun S_58 =>
  some (.inl (S_58, x2))
noncomputable def Model_expression_j195_l12 (S : St) : Option ((St × Int32) ⊕ St) :=
  bd (f_Model_comesOut S (0 : Int32)) fun S_51 =>
  some (.inr S_51)
noncomputable def Model_expression_j177_l12 (S : St) (x1 : Int32) (t0 : Int32) : Option ((St × Int32) ⊕ St) :=
  if t0 = 0 then (
    if (gI S 0 12) ≤ x1 then (
      Model_expression_j195_l12 S)
    else (
      bd (f_Model_fail S (1 : Int32)) fun S_49 =>
      Model_expression_j195_l12 S_49))
  else (
    gd (inb (gI S 0 11) 403) <|
    nm (gA S 0 5 (gI S 0 11).toNatClampNeg) fun x3_45 =>
    if x3_45 = (13 : Int32) then (
      Model_expression_j223_l12 S x1 t0 x3_45 (1 : Int32))
    else (
      Model_expression_j223_l12 S x1 t0 x3_45 (0 : Int32)))
noncomputable def Model_expression_j172_l12 (S : St) (x1 : Int32) : Option ((St × Int32) ⊕ St) :=
  Model_expression_j177_l12 S x1 (1 : Int32)
noncomputable def Model_expression_j145_l12 (S : St) (x1 : Int32) : Option ((St × Int32) ⊕ St) :=
  bd (f_Model_is S (11 : Int32)) fun v_35 =>
  if v_35 = 0 then (
    bd (f_Model_is S (12 : Int32)) fun v_38 =>
    if v_38 = 0 then (
      bd (f_Model_is S (13 : Int32)) fun v_41 =>
      if v_41 = 0 then (
        Model_expression_j177_l12 S x1 (0 : Int32))
      else (
        Model_expression_j172_l12 S x1))
    else (
      Model_expression_j172_l12 S x1))
  else (
    Model_expression_j172_l12 S x1)
noncomputable def Model_expression_l12 (x1 : Int32) (S : St) (x2 : Int32) : Option ((St × Int32) ⊕ St) :=
  if x2 = 0 then (
    Model_expression_j253_l12 S)
  else (
    if (gI S 0 13) = 0 then (
      bd (wh (Model_expression_l23 x1) S) fun S_17 =>
      bd (f_Model_unit S_17) fun S_20 =>
      if (gI S_20 0 13) ≤ 0 then (
        bd (wh (Model_expression_l96 x1) S_20) fun S_32 =>
        Model_expression_j145_l12 S_32 x1)
      else (
        some (.inr S_20)))
    else (
      Model_expression_j253_l12 S))
noncomputable def f_Model_expression (S : St) : Option St :=
  nm (pI S 0 43 (0 : Int32)) fun S_1 =>
  nm (gI S_1 0 12) fun x1_2 =>
  wh (un2 (Model_expression_l12 x1_2)) (S_1, (1 : Int32))
noncomputable def Model_literal_j20_l2 (S : St) (x1 : Int32) (t0 : Int32) : Option ((St × Int32) ⊕ (St × Int32)) :=
  bd (f_Model_next S) fun S_6 =>
  some (.inl (S_6, t0))
noncomputable def Model_literal_l2 (x1 : Int32) (S : St) (x2 : Int32) : Option ((St × Int32) ⊕ (St × Int32)) :=
  bd (f_Model_is S (31 : Int32)) fun v_2 =>
  if v_2 = 0 then (
    some (.inr (S, x2)))
  else (
    if x2 = 0 then (
      Model_literal_j20_l2 S x1 (1 : Int32))
    else (
      Model_literal_j20_l2 S x1 (0 : Int32)))
noncomputable def Model_literal_j84 (S : St) (x1 : Int32) (x2 : Int32) (x3 : Int32) (x4 : Int32) : Option St :=
  bd (f_Model_next S) fun S_21 =>
  nm (gI S_21 0 38) fun x5_22 =>
  bd (f_Model_expression S_21) fun S_24 =>
  if (gI S_24 0 13) ≤ 0 then (
    gd (inb (gI S_24 0 19) 2) <|
    nm (((200 : Int32) * (gI S_24 0 19)) + (gA S_24 0 31 (gI S_24 0 19).toNatClampNeg)) fun x6_27 =>
    gd (inb x6_27 400) <|
    nm (pA S_24 0 32 x6_27.toNatClampNeg x4) fun S_29 =>
    gd (inb x6_27 400) <|
    nm (pA S_29 0 33 x6_27.toNatClampNeg (vp_nar .boolean x2)) fun S_31 =>
    gd (inb x6_27 400) <|
    nm (pA S_31 0 34 x6_27.toNatClampNeg (vp_nar .boolean x1)) fun S_33 =>
    gd (inb x6_27 400) <|
    nm (pA S_33 0 35 x6_27.toNatClampNeg x3) fun S_35 =>
    gd (inb x6_27 400) <|
    nm (pA S_35 0 36 x6_27.toNatClampNeg x5_22) fun S_37 =>
    gd (inb x6_27 400) <|
    nm (pA S_37 0 37 x6_27.toNatClampNeg (gI S_37 0 38)) fun S_39 =>
    gd (inb (gI S_39 0 19) 2) <|
    gd (inb (gI S_39 0 19) 2) <|
    nm (pA S_39 0 31 (gI S_39 0 19).toNatClampNeg ((gA S_39 0 31 (gI S_39 0 19).toNatClampNeg) + (1 : Int32))) fun S_42 =>
    some S_42)
  else (
    some S_24)
noncomputable def Model_literal_j79 (S : St) (x1 : Int32) (x2 : Int32) (x3 : Int32) (x4 : Int32) : Option St :=
  bd (f_Model_fail S (1 : Int32)) fun S_19 =>
  Model_literal_j84 S_19 x1 x2 x3 x4
noncomputable def Model_literal_j59 (S : St) (x1 : Int32) (x2 : Int32) (x3 : Int32) (t0 : Int32) : Option St :=
  if (gI S 0 13) = 0 then (
    if t0 < 0 then (
      Model_literal_j79 S x1 x2 x3 t0)
    else (
      if t0 ≤ (3 : Int32) then (
        Model_literal_j84 S x1 x2 x3 t0)
      else (
        Model_literal_j79 S x1 x2 x3 t0)))
  else (
    Model_literal_j84 S x1 x2 x3 t0)
noncomputable def f_Model_literal (S : St) (x1 : Int32) : Option St :=
  bd2 (wh (un2 (Model_literal_l2 x1)) (S, (0 : Int32))) fun S_7 x2_8 =>
  nm (gI S_7 0 38) fun x3_10 =>
  bd (f_Model_expression S_7) fun S_12 =>
  if (gI S_12 0 13) ≤ 0 then (
    gd (inb (gI S_12 0 11) 403) <|
    Model_literal_j59 S_12 x1 x2_8 x3_10 ((gA S_12 0 5 (gI S_12 0 11).toNatClampNeg) - (4 : Int32)))
  else (
    Model_literal_j59 S_12 x1 x2_8 x3_10 (0 : Int32))
noncomputable def Model_tell_j335_l291 (S : St) (x1 : Int32) (x2 : Int32) (x4 : Int32) (t0 : Int32) : Option ((St × Int32 × Int32) ⊕ St) :=
  if t0 = 0 then (
    some (.inl (S, t0, x4)))
  else (
    bd (f_Model_next S) fun S_76 =>
    some (.inl (S_76, t0, x4)))
noncomputable def Model_tell_j330_l291 (S : St) (x1 : Int32) (x2 : Int32) (x4 : Int32) : Option ((St × Int32 × Int32) ⊕ St) :=
  Model_tell_j335_l291 S x1 x2 x4 (1 : Int32)
noncomputable def Model_tell_l291 (x1 : Int32) (x2 : Int32) (S : St) (x3 : Int32) (x4 : Int32) : Option ((St × Int32 × Int32) ⊕ St) :=
  if x3 = 0 then (
    some (.inr S))
  else (
    if (gI S 0 13) = 0 then (
      bd (f_Model_literal S x4) fun S_67 =>
      bd (f_Model_is S_67 (29 : Int32)) fun v_69 =>
      if v_69 = 0 then (
        bd (f_Model_is S_67 (30 : Int32)) fun v_72 =>
        if v_72 = 0 then (
          Model_tell_j335_l291 S_67 x1 x2 v_69 (0 : Int32))
        else (
          Model_tell_j330_l291 S_67 x1 x2 v_69))
      else (
        Model_tell_j330_l291 S_67 x1 x2 v_69))
    else (
      some (.inr S)))
noncomputable def Model_tell_j347 (S : St) (x1 : Int32) (x2 : Int32) : Option St :=
  bd (f_Model_must S (8 : Int32)) fun S_80 =>
  if (gI S_80 0 13) ≤ 0 then (
    gd (inb (gI S_80 0 19) 2) <|
    gd (inb x2 80) <|
    nm (pA S_80 0 28 x2.toNatClampNeg (gA S_80 0 31 (gI S_80 0 19).toNatClampNeg)) fun S_84 =>
    gd (inb (((5 : Int32) * (gI S_84 0 19)) + x1) 10) <|
    gd (inb (((5 : Int32) * (gI S_84 0 19)) + x1) 10) <|
    nm (pA S_84 0 25 (((5 : Int32) * (gI S_84 0 19)) + x1).toNatClampNeg ((gA S_84 0 25 (((5 : Int32) * (gI S_84 0 19)) + x1).toNatClampNeg) + (1 : Int32))) fun S_87 =>
    some S_87)
  else (
    some S_80)
noncomputable def Model_tell_j288 (S : St) (x1 : Int32) (x2 : Int32) (x3 : Int32) : Option St :=
  bd (wh (un3 (Model_tell_l291 x1 x2)) (S, x3, (1 : Int32))) fun S_77 =>
  Model_tell_j347 S_77 x1 x2
noncomputable def Model_tell_j267 (S : St) (x1 : Int32) (x2 : Int32) (t0 : Int32) : Option St :=
  bd (f_Model_is S (28 : Int32)) fun v_59 =>
  if v_59 = 0 then (
    Model_tell_j288 S x1 x2 t0)
  else (
    if x1 = (4 : Int32) then (
      bd (f_Model_next S) fun S_63 =>
      Model_tell_j288 S_63 x1 x2 (1 : Int32))
    else (
      Model_tell_j288 S x1 x2 t0))
noncomputable def Model_tell_j232 (S : St) (x1 : Int32) (x2 : Int32) : Option St :=
  gd (inb x2 80) <|
  nm (pA S 0 30 x2.toNatClampNeg (gI S 0 38)) fun S_53 =>
  gd (inb (gI S_53 0 19) 2) <|
  gd (inb x2 80) <|
  nm (pA S_53 0 27 x2.toNatClampNeg (gA S_53 0 31 (gI S_53 0 19).toNatClampNeg)) fun S_56 =>
  if x1 = (4 : Int32) then (
    Model_tell_j267 S_56 x1 x2 (0 : Int32))
  else (
    Model_tell_j267 S_56 x1 x2 (1 : Int32))
noncomputable def Model_tell_j223 (S : St) (x1 : Int32) (x2 : Int32) : Option St :=
  if x1 = (4 : Int32) then (
    bd (f_Model_expression S) fun S_51 =>
    Model_tell_j232 S_51 x1 x2)
  else (
    Model_tell_j232 S x1 x2)
noncomputable def Model_tell_j217 (S : St) (x1 : Int32) (x2 : Int32) (t1 : Int32) (t2 : Int32) : Option St :=
  gd (inb t1 80) <|
  nm (pA S 0 26 t1.toNatClampNeg t2) fun S_46 =>
  bd (f_Model_must S_46 (2 : Int32)) fun S_48 =>
  Model_tell_j223 S_48 x1 x2
noncomputable def Model_tell_j166 (S : St) (x1 : Int32) (x2 : Int32) (t1 : Int32) : Option St :=
  gd (isB t1) <|
  nm (pI S 0 41 t1) fun S_35 =>
  gd (inb x2 80) <|
  nm (pA S_35 0 26 x2.toNatClampNeg (0 : Int32)) fun S_37 =>
  gd (inb x2 80) <|
  nm (pA S_37 0 29 x2.toNatClampNeg (gI S_37 0 38)) fun S_39 =>
  if x1 = (1 : Int32) then (
    bd (f_Model_is S_39 (2 : Int32)) fun v_42 =>
    if v_42 = 0 then (
      Model_tell_j217 S_39 x1 x2 x2 (0 : Int32))
    else (
      gd (inb (gI S_39 0 11) 403) <|
      Model_tell_j217 S_39 x1 x2 x2 (gA S_39 0 7 (gI S_39 0 11).toNatClampNeg)))
  else (
    Model_tell_j223 S_39 x1 x2)
noncomputable def Model_tell_j117 (S : St) (x1 : Int32) : Option St :=
  if (gI S 0 13) ≤ 0 then (
    bd (f_Model_next S) fun S_30 =>
    gd (inb (((5 : Int32) * (gI S_30 0 19)) + x1) 10) <|
    nm (((8 : Int32) * (((5 : Int32) * (gI S_30 0 19)) + x1)) + (gA S_30 0 25 (((5 : Int32) * (gI S_30 0 19)) + x1).toNatClampNeg)) fun x2_32 =>
    if x1 = (3 : Int32) then (
      Model_tell_j166 S_30 x1 x2_32 (1 : Int32))
    else (
      Model_tell_j166 S_30 x1 x2_32 (0 : Int32)))
  else (
    some S)
noncomputable def Model_tell_j80 (S : St) (t0 : Int32) : Option St :=
  if t0 = (-1 : Int32) then (
    bd (f_Model_fail S (1 : Int32)) fun S_27 =>
    Model_tell_j117 S_27 t0)
  else (
    gd (inb (((5 : Int32) * (gI S 0 19)) + t0) 10) <|
    if (gA S 0 25 (((5 : Int32) * (gI S 0 19)) + t0).toNatClampNeg) = (8 : Int32) then (
      bd (f_Model_fail S (2 : Int32)) fun S_25 =>
      Model_tell_j117 S_25 t0)
    else (
      Model_tell_j117 S t0))
noncomputable def f_Model_tell (S : St) : Option St :=
  bd (f_Model_is S (20 : Int32)) fun v_2 =>
  if v_2 = 0 then (
    bd (f_Model_is S (23 : Int32)) fun v_5 =>
    if v_5 = 0 then (
      bd (f_Model_is S (24 : Int32)) fun v_8 =>
      if v_8 = 0 then (
        bd (f_Model_is S (25 : Int32)) fun v_11 =>
        if v_11 = 0 then (
          bd (f_Model_is S (26 : Int32)) fun v_14 =>
          if v_14 = 0 then (
            bd (f_Model_is S (27 : Int32)) fun v_17 =>
            if v_17 = 0 then (
              Model_tell_j80 S (-1 : Int32))
            else (
              Model_tell_j80 S (4 : Int32)))
          else (
            Model_tell_j80 S (3 : Int32)))
        else (
          Model_tell_j80 S (2 : Int32)))
      else (
        Model_tell_j80 S (1 : Int32)))
    else (
      Model_tell_j80 S (0 : Int32)))
  else (
    bd (f_Model_tellField S) fun S_20 =>
    some S_20)
noncomputable def f_Model_valueOf (S : St) (x1 : Int32) (x2 : Int32) : Option Int32 :=
  gd (inb (((6 : Int32) * (gI S 0 18)) + x2) 12) <|
  gd (inb x2 6) <|
  gd (nz (gA S 0 45 x2.toNatClampNeg)) <|
  gd (inb (((6 : Int32) * (gI S 0 18)) + x2) 12) <|
  gd (nz (gA S 0 23 (((6 : Int32) * (gI S 0 18)) + x2).toNatClampNeg)) <|
  some ((gA S 0 22 (((6 : Int32) * (gI S 0 18)) + x2).toNatClampNeg) + ((x1 / (gA S 0 45 x2.toNatClampNeg)) - (x1 / (gA S 0 45 x2.toNatClampNeg)) / (gA S 0 23 (((6 : Int32) * (gI S 0 18)) + x2).toNatClampNeg) * (gA S 0 23 (((6 : Int32) * (gI S 0 18)) + x2).toNatClampNeg)))
noncomputable def Model_looksAt_l2 (x1 : Int32) (S : St) (x2 : Int32) : Option ((St × Int32) ⊕ St) :=
  gd (inb (gI S 0 18) 2) <|
  if (gA S 0 20 (gI S 0 18).toNatClampNeg) ≤ x2 then (
    some (.inr S))
  else (
    bd (f_Model_valueOf S x1 x2) fun v_4 =>
    gd (inb x2 6) <|
    nm (pA S 0 49 x2.toNatClampNeg v_4) fun S_6 =>
    nm (x2 + (1 : Int32)) fun x2_7 =>
    some (.inl (S_6, x2_7)))
noncomputable def f_Model_looksAt (S : St) (x1 : Int32) : Option St :=
  bd (wh (un2 (Model_looksAt_l2 x1)) (S, (0 : Int32))) fun S_8 =>
  some S_8
noncomputable def f_Model_tellsOf (S : St) (x1 : Int32) : Option Int32 :=
  gd (inb (((5 : Int32) * (gI S 0 18)) + x1) 10) <|
  some (gA S 0 25 (((5 : Int32) * (gI S 0 18)) + x1).toNatClampNeg)
noncomputable def f_Model_condOf (S : St) (x1 : Int32) (x2 : Int32) : Option Int32 :=
  some (((8 : Int32) * (((5 : Int32) * (gI S 0 18)) + x1)) + x2)
noncomputable def Model_termOf_j148_l5 (S : St) (x2 : Int32) (x3 : Int32) (x4 : Int32) : Option ((St × Int32 × Int32) ⊕ St) :=
  nm (x4 + (1 : Int32)) fun x4_24 =>
  some (.inl (S, x3, x4_24))
noncomputable def Model_termOf_j147_l5 (S : St) (x2 : Int32) (x3 : Int32) (x4 : Int32) (t1 : Int32) (t2 : Int32) : Option ((St × Int32 × Int32) ⊕ St) :=
  gd (inb t1 500) <|
  nm (pA S 0 51 t1.toNatClampNeg t2) fun S_23 =>
  Model_termOf_j148_l5 S_23 x2 x3 x4
noncomputable def Model_termOf_j79_l5 (S : St) (x2 : Int32) (x3 : Int32) (x4 : Int32) (t1 : Int32) (t2 : Int32) : Option ((St × Int32 × Int32) ⊕ St) :=
  gd (inb t1 500) <|
  nm (pA S 0 51 t1.toNatClampNeg t2) fun S_20 =>
  nm (x3 + (1 : Int32)) fun x3_21 =>
  Model_termOf_j148_l5 S_20 x2 x3_21 x4
noncomputable def Model_termOf_l5 (x2 : Int32) (S : St) (x3 : Int32) (x4 : Int32) : Option ((St × Int32 × Int32) ⊕ St) :=
  if x2 ≤ x4 then (
    some (.inr S))
  else (
    gd (inb x4 1000) <|
    nm (gA S 0 39 x4.toNatClampNeg) fun x5_3 =>
    if (3 : Int32) ≤ x5_3 then (
      nm (x3 + (-1 : Int32)) fun x3_5 =>
      gd (inb (x3_5 - (1 : Int32)) 500) <|
      nm (gA S 0 51 (x3_5 - (1 : Int32)).toNatClampNeg) fun x6_7 =>
      gd (inb x3_5 500) <|
      nm (gA S 0 51 x3_5.toNatClampNeg) fun x7_9 =>
      if x5_3 = (3 : Int32) then (
        Model_termOf_j147_l5 S x2 x3_5 x4 (x3_5 - (1 : Int32)) (x6_7 + x7_9))
      else (
        if x5_3 = (4 : Int32) then (
          Model_termOf_j147_l5 S x2 x3_5 x4 (x3_5 - (1 : Int32)) (x6_7 - x7_9))
        else (
          Model_termOf_j147_l5 S x2 x3_5 x4 (x3_5 - (1 : Int32)) (x6_7 * x7_9))))
    else (
      if x5_3 = 0 then (
        gd (inb x4 1000) <|
        Model_termOf_j79_l5 S x2 x3 x4 x3 (gA S 0 40 x4.toNatClampNeg))
      else (
        if x5_3 = (1 : Int32) then (
          gd (inb x4 1000) <|
          gd (inb (gA S 0 40 x4.toNatClampNeg) 6) <|
          Model_termOf_j79_l5 S x2 x3 x4 x3 (gA S 0 49 (gA S 0 40 x4.toNatClampNeg).toNatClampNeg))
        else (
          gd (inb x4 1000) <|
          gd (inb (gA S 0 40 x4.toNatClampNeg) 6) <|
          Model_termOf_j79_l5 S x2 x3 x4 x3 (gA S 0 50 (gA S 0 40 x4.toNatClampNeg).toNatClampNeg)))))
noncomputable def f_Model_termOf (S : St) (x1 : Int32) (x2 : Int32) : Option (Int32 × St) :=
  bd (wh (un3 (Model_termOf_l5 x2)) (S, (0 : Int32), x1)) fun S_25 =>
  gd (inb (0 : Int32) 500) <|
  some ((gA S_25 0 51 (0 : Int32).toNatClampNeg), S_25)
noncomputable def Model_holds_j232_l26 (S : St) (x1 : Int32) (x2 : Int32) (x3 : Int32) : Option ((St × Int32 × Int32) ⊕ (Int32 × St)) :=
  nm (x3 + (1 : Int32)) fun x3_38 =>
  some (.inl (S, x2, x3_38))
noncomputable def Model_holds_j231_l26 (S : St) (x1 : Int32) (x3 : Int32) (t0 : Int32) : Option ((St × Int32 × Int32) ⊕ (Int32 × St)) :=
  Model_holds_j232_l26 S x1 t0 x3
noncomputable def Model_holds_j212_l26 (S : St) (x1 : Int32) (x3 : Int32) (x4 : Int32) (t0 : Int32) : Option ((St × Int32 × Int32) ⊕ (Int32 × St)) :=
  gd (inb x4 400) <|
  if t0 = (gA S 0 33 x4.toNatClampNeg) then (
    Model_holds_j231_l26 S x1 x3 (0 : Int32))
  else (
    Model_holds_j231_l26 S x1 x3 (1 : Int32))
noncomputable def Model_holds_j76_l26 (S : St) (x1 : Int32) (x2 : Int32) (x3 : Int32) (x4 : Int32) : Option ((St × Int32 × Int32) ⊕ (Int32 × St)) :=
  if x2 = 0 then (
    Model_holds_j232_l26 S x1 x2 x3)
  else (
    gd (inb x4 400) <|
    gd (inb x4 400) <|
    bd2 (f_Model_termOf S (gA S 0 35 x4.toNatClampNeg) (gA S 0 36 x4.toNatClampNeg)) fun v_19 S_20 =>
    gd (inb x4 400) <|
    gd (inb x4 400) <|
    bd2 (f_Model_termOf S_20 (gA S_20 0 36 x4.toNatClampNeg) (gA S_20 0 37 x4.toNatClampNeg)) fun v_24 S_25 =>
    gd (inb x4 400) <|
    if (gA S_25 0 32 x4.toNatClampNeg) = 0 then (
      if v_19 = v_24 then (
        Model_holds_j212_l26 S_25 x1 x3 x4 (1 : Int32))
      else (
        Model_holds_j212_l26 S_25 x1 x3 x4 (0 : Int32)))
    else (
      gd (inb x4 400) <|
      if (gA S_25 0 32 x4.toNatClampNeg) = (1 : Int32) then (
        if v_19 = v_24 then (
          Model_holds_j212_l26 S_25 x1 x3 x4 (0 : Int32))
        else (
          Model_holds_j212_l26 S_25 x1 x3 x4 (1 : Int32)))
      else (
        gd (inb x4 400) <|
        if (gA S_25 0 32 x4.toNatClampNeg) = (2 : Int32) then (
          if v_24 ≤ v_19 then (
            Model_holds_j212_l26 S_25 x1 x3 x4 (0 : Int32))
          else (
            Model_holds_j212_l26 S_25 x1 x3 x4 (1 : Int32)))
        else (
          if v_24 < v_19 then (
            Model_holds_j212_l26 S_25 x1 x3 x4 (0 : Int32))
          else (
            Model_holds_j212_l26 S_25 x1 x3 x4 (1 : Int32))))))
noncomputable def Model_holds_j64_l26 (S : St) (x1 : Int32) (x2 : Int32) (x3 : Int32) (x4 : Int32) : Option ((St × Int32 × Int32) ⊕ (Int32 × St)) :=
  gd (inb x4 400) <|
  if (gA S 0 34 x4.toNatClampNeg) = 0 then (
    Model_holds_j76_l26 S x1 x2 x3 x4)
  else (
    Model_holds_j76_l26 S x1 (1 : Int32) x3 x4)
noncomputable def Model_holds_l26 (x1 : Int32) (S : St) (x2 : Int32) (x3 : Int32) : Option ((St × Int32 × Int32) ⊕ (Int32 × St)) :=
  gd (inb x1 80) <|
  if (gA S 0 28 x1.toNatClampNeg) ≤ x3 then (
    gd (isB x2) <|
    some (.inr (x2, S)))
  else (
    nm (((200 : Int32) * (gI S 0 18)) + x3) fun x4_9 =>
    gd (inb x4_9 400) <|
    if (gA S 0 34 x4_9.toNatClampNeg) = 0 then (
      Model_holds_j64_l26 S x1 x2 x3 x4_9)
    else (
      if x2 = 0 then (
        Model_holds_j64_l26 S x1 x2 x3 x4_9)
      else (
        some (.inr ((1 : Int32), S)))))
noncomputable def f_Model_holds (S : St) (x1 : Int32) : Option (Int32 × St) :=
  gd (inb x1 80) <|
  gd (inb x1 80) <|
  if (gA S 0 27 x1.toNatClampNeg) = (gA S 0 28 x1.toNatClampNeg) then (
    some ((1 : Int32), S))
  else (
    gd (inb x1 80) <|
    nm (gA S 0 27 x1.toNatClampNeg) fun x3_5 =>
    wh (un3 (Model_holds_l26 x1)) (S, (0 : Int32), x3_5))
noncomputable def Model_bitsOf_j32_l4 (S : St) (x1 : Int32) (x2 : Int32) (x3 : Int32) : Option ((St × Int32 × Int32) ⊕ (St × Int32)) :=
  nm (x3 + (1 : Int32)) fun x3_11 =>
  some (.inl (S, x2, x3_11))
noncomputable def Model_bitsOf_l4 (x1 : Int32) (S : St) (x2 : Int32) (x3 : Int32) : Option ((St × Int32 × Int32) ⊕ (St × Int32)) :=
  bd (f_Model_tellsOf S x1) fun v_2 =>
  if v_2 ≤ x3 then (
    some (.inr (S, x2)))
  else (
    bd (f_Model_condOf S x1 x3) fun v_5 =>
    bd2 (f_Model_holds S v_5) fun v_7 S_8 =>
    if v_7 = 0 then (
      Model_bitsOf_j32_l4 S_8 x1 x2 x3)
    else (
      nm (x2 ||| ((1 : Int32) <<< (x3 &&& 31))) fun x2_10 =>
      Model_bitsOf_j32_l4 S_8 x1 x2_10 x3))
noncomputable def f_Model_bitsOf (S : St) (x1 : Int32) : Option (Int32 × St) :=
  bd2 (wh (un3 (Model_bitsOf_l4 x1)) (S, (0 : Int32), (0 : Int32))) fun S_12 x2_13 =>
  some (x2_13, S_12)
noncomputable def f_Model_laws (S : St) : Option Int32 :=
  bd (f_Model_tellsOf S (0 : Int32)) fun v_2 =>
  some ((gI S 0 52) &&& (((1 : Int32) <<< (v_2 &&& 31)) - (1 : Int32)))
noncomputable def Model_isAny_j36_l2 (S : St) (x1 : Int32) (x2 : Int32) (x3 : Int32) : Option (Int32 ⊕ Int32) :=
  nm (x3 + (1 : Int32)) fun x3_6 =>
  some (.inl x3_6)
noncomputable def Model_isAny_l2 (S : St) (x1 : Int32) (x2 : Int32) (x3 : Int32) : Option (Int32 ⊕ Int32) :=
  if (gI S 0 44) ≤ x3 then (
    some (.inr (0 : Int32)))
  else (
    gd (inb x3 32768) <|
    if ((gA S 0 46 x3.toNatClampNeg) &&& x1) = x1 then (
      gd (inb x3 32768) <|
      if ((gA S 0 47 x3.toNatClampNeg) &&& x2) = x2 then (
        some (.inr (1 : Int32)))
      else (
        Model_isAny_j36_l2 S x1 x2 x3))
    else (
      Model_isAny_j36_l2 S x1 x2 x3))
noncomputable def f_Model_isAny (S : St) (x1 : Int32) (x2 : Int32) : Option Int32 :=
  wh (Model_isAny_l2 S x1 x2) (0 : Int32)
noncomputable def Model_isLawful_j41 (S : St) (t0 : Int32) : Option Int32 :=
  gd (isB t0) <|
  some t0
noncomputable def Model_isLawful_j40 (S : St) : Option Int32 :=
  Model_isLawful_j41 S (0 : Int32)
noncomputable def f_Model_isLawful (S : St) (x1 : Int32) : Option Int32 :=
  gd (inb x1 32768) <|
  bd (f_Model_laws S) fun v_3 =>
  bd (f_Model_laws S) fun v_5 =>
  if ((gA S 0 46 x1.toNatClampNeg) &&& v_3) = v_5 then (
    gd (inb x1 32768) <|
    if ((gA S 0 47 x1.toNatClampNeg) &&& (gI S 0 53)) = (gI S 0 53) then (
      Model_isLawful_j41 S (1 : Int32))
    else (
      Model_isLawful_j40 S))
  else (
    Model_isLawful_j40 S)
noncomputable def Model_shareOf_j77_l7 (S : St) (t0 : Int32) : Option ((St × Int32) ⊕ (Int32 × St)) :=
  some (.inr (t0, S))
noncomputable def Model_shareOf_l7 (S : St) (x2 : Int32) : Option ((St × Int32) ⊕ (Int32 × St)) :=
  bd (f_Model_tellsOf S (4 : Int32)) fun v_4 =>
  if v_4 ≤ x2 then (
    some (.inr ((1 : Int32), S)))
  else (
    bd (f_Model_condOf S (4 : Int32) x2) fun v_7 =>
    bd2 (f_Model_holds S v_7) fun v_9 S_10 =>
    if v_9 = 0 then (
      nm (x2 + (1 : Int32)) fun x2_19 =>
      some (.inl (S_10, x2_19)))
    else (
      gd (inb v_7 80) <|
      gd (inb v_7 80) <|
      bd2 (f_Model_termOf S_10 (gA S_10 0 29 v_7.toNatClampNeg) (gA S_10 0 30 v_7.toNatClampNeg)) fun v_15 S_16 =>
      if 0 ≤ v_15 then (
        if v_15 ≤ (1000 : Int32) then (
          Model_shareOf_j77_l7 S_16 v_15)
        else (
          Model_shareOf_j77_l7 S_16 (1000 : Int32)))
      else (
        Model_shareOf_j77_l7 S_16 (0 : Int32))))
noncomputable def f_Model_shareOf (S : St) (x1 : Int32) : Option (Int32 × St) :=
  bd (f_Model_looksAt S x1) fun S_2 =>
  wh (un2 Model_shareOf_l7) (S_2, (0 : Int32))
noncomputable def Model_settles_j98_l42 (S : St) (x1 : Int32) (x2 : Int32) (x3 : Int32) (x4 : Int32) (x5 : Int32) (x6 : Int32) : Option ((Int32 × Int32) ⊕ Int32) :=
  nm (x6 + (1 : Int32)) fun x6_22 =>
  some (.inl (x5, x6_22))
noncomputable def Model_settles_j94_l42 (S : St) (x1 : Int32) (x2 : Int32) (x3 : Int32) (x4 : Int32) (x6 : Int32) : Option ((Int32 × Int32) ⊕ Int32) :=
  Model_settles_j98_l42 S x1 x2 x3 x4 x6 x6
noncomputable def Model_settles_l42 (S : St) (x1 : Int32) (x2 : Int32) (x3 : Int32) (x4 : Int32) (x5 : Int32) (x6 : Int32) : Option ((Int32 × Int32) ⊕ Int32) :=
  bd (f_Model_tellsOf S (1 : Int32)) fun v_11 =>
  if v_11 ≤ x6 then (
    some (.inr x5))
  else (
    if ((x2 >>> (x6 &&& 31)) &&& (1 : Int32)) = 0 then (
      if x5 = (-1 : Int32) then (
        Model_settles_j94_l42 S x1 x2 x3 x4 x6)
      else (
        bd (f_Model_condOf S (1 : Int32) x6) fun v_16 =>
        gd (inb v_16 80) <|
        bd (f_Model_condOf S (1 : Int32) x5) fun v_19 =>
        gd (inb v_19 80) <|
        if (gA S 0 26 v_16.toNatClampNeg) ≤ (gA S 0 26 v_19.toNatClampNeg) then (
          Model_settles_j98_l42 S x1 x2 x3 x4 x5 x6)
        else (
          Model_settles_j94_l42 S x1 x2 x3 x4 x6)))
    else (
      Model_settles_j98_l42 S x1 x2 x3 x4 x5 x6))
noncomputable def Model_settles_j141_l22 (S : St) (x1 : Int32) (x2 : Int32) (x3 : Int32) (x4 : Int32) : Option ((St × Int32 × Int32) ⊕ St) :=
  nm (x4 + (1 : Int32)) fun x4_30 =>
  some (.inl (S, x2, x4_30))
noncomputable def Model_settles_l22 (x1 : Int32) (x3 : Int32) (S : St) (x2 : Int32) (x4 : Int32) : Option ((St × Int32 × Int32) ⊕ St) :=
  bd (f_Model_tellsOf S (1 : Int32)) fun v_7 =>
  if v_7 ≤ x4 then (
    some (.inr S))
  else (
    if x3 = 0 then (
      some (.inr S))
    else (
      bd (wh (un2 (Model_settles_l42 S x1 x2 x3 x4)) ((-1 : Int32), (0 : Int32))) fun x5_23 =>
      nm (x2 ||| ((1 : Int32) <<< (x5_23 &&& 31))) fun x2_25 =>
      bd (f_Model_isAny S x1 ((gI S 0 53) ||| ((1 : Int32) <<< (x5_23 &&& 31)))) fun v_27 =>
      if v_27 = 0 then (
        Model_settles_j141_l22 S x1 x2_25 x3 x4)
      else (
        nm (pI S 0 53 ((gI S 0 53) ||| ((1 : Int32) <<< (x5_23 &&& 31)))) fun S_29 =>
        Model_settles_j141_l22 S_29 x1 x2_25 x3 x4)))
noncomputable def Model_settles_j235_l160 (S : St) (x4 : Int32) : Option ((St × Int32) ⊕ St) :=
  nm (x4 + (1 : Int32)) fun x4_49 =>
  some (.inl (S, x4_49))
noncomputable def Model_settles_l160 (S : St) (x4 : Int32) : Option ((St × Int32) ⊕ St) :=
  if (gI S 0 44) ≤ x4 then (
    some (.inr S))
  else (
    bd (f_Model_isLawful S x4) fun v_37 =>
    if v_37 = 0 then (
      Model_settles_j235_l160 S x4)
    else (
      gd (inb (gI S 0 54) 32768) <|
      nm (pA S 0 55 (gI S 0 54).toNatClampNeg x4) fun S_40 =>
      bd2 (f_Model_shareOf S_40 x4) fun v_42 S_43 =>
      gd (inb (gI S_40 0 54) 32768) <|
      nm (pA S_43 0 56 (gI S_40 0 54).toNatClampNeg v_42) fun S_45 =>
      gd (inb (gI S_45 0 54) 32768) <|
      nm (pI S_45 0 57 ((gI S_45 0 57) + (gA S_45 0 56 (gI S_45 0 54).toNatClampNeg))) fun S_47 =>
      nm (pI S_47 0 54 ((gI S_47 0 54) + (1 : Int32))) fun S_48 =>
      Model_settles_j235_l160 S_48 x4))
noncomputable def Model_settles_j147 (S : St) : Option St :=
  nm (pI S 0 54 (0 : Int32)) fun S_33 =>
  nm (pI S_33 0 57 (0 : Int32)) fun S_34 =>
  bd (wh (un2 Model_settles_l160) (S_34, (0 : Int32))) fun S_50 =>
  some S_50
noncomputable def f_Model_settles (S : St) : Option St :=
  nm (pI S 0 53 (0 : Int32)) fun S_1 =>
  bd (f_Model_laws S_1) fun v_3 =>
  bd (f_Model_isAny S_1 v_3 (0 : Int32)) fun v_5 =>
  bd (wh (un3 (Model_settles_l22 v_3 v_5)) (S_1, (0 : Int32), (0 : Int32))) fun S_31 =>
  Model_settles_j147 S_31
noncomputable def Model_goesThrough_l17 (S : St) (x1 : Int32) : Option ((St × Int32) ⊕ St) :=
  if x1 < 0 then (
    some (.inr S))
  else (
    gd (inb x1 6) <|
    nm (pA S 0 45 x1.toNatClampNeg (gI S 0 44)) fun S_6 =>
    gd (inb (((6 : Int32) * (gI S_6 0 18)) + x1) 12) <|
    nm (pI S_6 0 44 ((gI S_6 0 44) * (gA S_6 0 23 (((6 : Int32) * (gI S_6 0 18)) + x1).toNatClampNeg))) fun S_8 =>
    nm (x1 + (-1 : Int32)) fun x1_9 =>
    some (.inl (S_8, x1_9)))
noncomputable def Model_goesThrough_l62 (S : St) (x1 : Int32) : Option ((St × Int32) ⊕ St) :=
  if (gI S 0 44) ≤ x1 then (
    some (.inr S))
  else (
    bd (f_Model_looksAt S x1) fun S_14 =>
    bd2 (f_Model_bitsOf S_14 (0 : Int32)) fun v_16 S_17 =>
    gd (inb x1 32768) <|
    nm (pA S_17 0 46 x1.toNatClampNeg v_16) fun S_19 =>
    bd2 (f_Model_bitsOf S_19 (1 : Int32)) fun v_21 S_22 =>
    gd (inb x1 32768) <|
    nm (pA S_22 0 47 x1.toNatClampNeg v_21) fun S_24 =>
    bd2 (f_Model_bitsOf S_24 (2 : Int32)) fun v_26 S_27 =>
    gd (inb x1 32768) <|
    nm (pA S_27 0 48 x1.toNatClampNeg v_26) fun S_29 =>
    nm (x1 + (1 : Int32)) fun x1_30 =>
    some (.inl (S_29, x1_30)))
noncomputable def f_Model_goesThrough (S : St) : Option St :=
  nm (pI S 0 44 (1 : Int32)) fun S_1 =>
  gd (inb (gI S_1 0 18) 2) <|
  nm ((gA S_1 0 20 (gI S_1 0 18).toNatClampNeg) - (1 : Int32)) fun x1_3 =>
  bd (wh (un2 Model_goesThrough_l17) (S_1, x1_3)) fun S_10 =>
  bd (wh (un2 Model_goesThrough_l62) (S_10, (0 : Int32))) fun S_31 =>
  bd (f_Model_settles S_31) fun S_34 =>
  some S_34
noncomputable def Model_read_l10 (S : St) (x1 : Int32) : Option ((St × Int32) ⊕ St) :=
  if (gI S 0 4) ≤ x1 then (
    some (.inr S))
  else (
    gd (inb x1 2000) <|
    gd (inb x1 2000) <|
    nm (pA S 0 3 x1.toNatClampNeg (vp_nar .byte (gA S 0 1 x1.toNatClampNeg))) fun S_5 =>
    nm (x1 + (1 : Int32)) fun x1_6 =>
    some (.inl (S_5, x1_6)))
noncomputable def Model_read_l92 (S : St) (x1 : Int32) : Option ((St × Int32) ⊕ St) :=
  if (5 : Int32) ≤ x1 then (
    some (.inr S))
  else (
    gd (inb (((5 : Int32) * (gI S 0 19)) + x1) 10) <|
    nm (pA S 0 25 (((5 : Int32) * (gI S 0 19)) + x1).toNatClampNeg (0 : Int32)) fun S_22 =>
    nm (x1 + (1 : Int32)) fun x1_23 =>
    some (.inl (S_22, x1_23)))
noncomputable def Model_read_l139 (S : St) : Option (St ⊕ St) :=
  if (gI S 0 13) = 0 then (
    bd (f_Model_is S (0 : Int32)) fun v_31 =>
    if v_31 = 0 then (
      bd (f_Model_tell S) fun S_34 =>
      some (.inl S_34))
    else (
      some (.inr S)))
  else (
    some (.inr S))
noncomputable def Model_read_j191 (S : St) (t1 : Int32) : Option (Int32 × St) :=
  nm (pI S 0 17 t1) fun S_39 =>
  if (gI S_39 0 13) ≤ 0 then (
    if (gI S_39 0 15) ≤ 0 then (
      nm (pI S_39 0 18 (gI S_39 0 19)) fun S_42 =>
      nm (pI S_42 0 52 (255 : Int32)) fun S_43 =>
      nm (pI S_43 0 58 (0 : Int32)) fun S_44 =>
      bd (f_Model_goesThrough S_44) fun S_46 =>
      some ((0 : Int32), S_46))
    else (
      some ((gI S_39 0 15), S_39)))
  else (
    some ((gI S_39 0 13), S_39))
noncomputable def Model_read_j161 (S : St) : Option (Int32 × St) :=
  if (gI S 0 13) ≤ 0 then (
    if (gI S 0 15) ≤ 0 then (
      Model_read_j191 S (-1 : Int32))
    else (
      Model_read_j191 S (gI S 0 16)))
  else (
    Model_read_j191 S (gI S 0 14))
noncomputable def f_Model_read (S : St) : Option (Int32 × St) :=
  nm (pI S 0 4 (gI S 0 2)) fun S_1 =>
  bd (wh (un2 Model_read_l10) (S_1, (0 : Int32))) fun S_7 =>
  nm (pI S_7 0 2 (0 : Int32)) fun S_9 =>
  bd (f_Model_cut S_9) fun S_11 =>
  nm (pI S_11 0 11 (0 : Int32)) fun S_12 =>
  nm (pI S_12 0 12 (0 : Int32)) fun S_13 =>
  nm (pI S_13 0 13 (0 : Int32)) fun S_14 =>
  nm (pI S_14 0 15 (0 : Int32)) fun S_15 =>
  nm (pI S_15 0 19 ((1 : Int32) - (gI S_15 0 18))) fun S_16 =>
  gd (inb (gI S_16 0 19) 2) <|
  nm (pA S_16 0 20 (gI S_16 0 19).toNatClampNeg (0 : Int32)) fun S_18 =>
  nm (pL S_18 0 24 (1 : Int64)) fun S_19 =>
  bd (wh (un2 Model_read_l92) (S_19, (0 : Int32))) fun S_24 =>
  gd (inb (gI S_24 0 19) 2) <|
  nm (pA S_24 0 31 (gI S_24 0 19).toNatClampNeg (0 : Int32)) fun S_27 =>
  nm (pI S_27 0 38 ((500 : Int32) * (gI S_27 0 19))) fun S_28 =>
  bd (wh Model_read_l139 S_28) fun S_35 =>
  Model_read_j161 S_35
noncomputable def f_Model_place (S : St) : Option Int32 :=
  some (gI S 0 17)
noncomputable def Model_turn_j34 (S : St) : Option (Int32 × St) :=
  some ((0 : Int32), S)
noncomputable def Model_turn_j30 (S : St) (x1 : Int32) (x2 : Int32) (t0 : Int32) : Option (Int32 × St) :=
  if t0 = x2 then (
    Model_turn_j34 S)
  else (
    nm (pI S 0 52 ((gI S 0 52) ^^^ ((1 : Int32) <<< (x1 &&& 31)))) fun S_7 =>
    bd (f_Model_settles S_7) fun S_9 =>
    some ((1 : Int32), S_9))
noncomputable def f_Model_turn (S : St) (x1 : Int32) (x2 : Int32) : Option (Int32 × St) :=
  if x1 < 0 then (
    Model_turn_j34 S)
  else (
    bd (f_Model_tellsOf S (0 : Int32)) fun v_3 =>
    if v_3 ≤ x1 then (
      Model_turn_j34 S)
    else (
      if (((gI S 0 52) >>> (x1 &&& 31)) &&& (1 : Int32)) = (1 : Int32) then (
        Model_turn_j30 S x1 x2 (1 : Int32))
      else (
        Model_turn_j30 S x1 x2 (0 : Int32))))
noncomputable def f_Model_lawful (S : St) : Option Int32 :=
  some (gI S 0 54)
noncomputable def f_Model_kept (S : St) : Option Int32 :=
  some (gI S 0 53)
noncomputable def Model_isNumber_j17 (S : St) (t0 : Int32) : Option Int32 :=
  gd (isB t0) <|
  some t0
noncomputable def Model_isNumber_j16 (S : St) : Option Int32 :=
  Model_isNumber_j17 S (0 : Int32)
noncomputable def f_Model_isNumber (S : St) (x1 : Int32) : Option Int32 :=
  if x1 < 0 then (
    Model_isNumber_j16 S)
  else (
    if (gI S 0 54) ≤ x1 then (
      Model_isNumber_j16 S)
    else (
      Model_isNumber_j17 S (1 : Int32)))
noncomputable def Model_isField_j22 (S : St) (t0 : Int32) : Option Int32 :=
  gd (isB t0) <|
  some t0
noncomputable def Model_isField_j21 (S : St) : Option Int32 :=
  Model_isField_j22 S (0 : Int32)
noncomputable def f_Model_isField (S : St) (x1 : Int32) : Option Int32 :=
  if x1 < 0 then (
    Model_isField_j21 S)
  else (
    gd (inb (gI S 0 18) 2) <|
    if (gA S 0 20 (gI S 0 18).toNatClampNeg) ≤ x1 then (
      Model_isField_j21 S)
    else (
      Model_isField_j22 S (1 : Int32)))
noncomputable def Model_isBin_j18 (S : St) (t0 : Int32) : Option Int32 :=
  gd (isB t0) <|
  some t0
noncomputable def Model_isBin_j17 (S : St) : Option Int32 :=
  Model_isBin_j18 S (0 : Int32)
noncomputable def f_Model_isBin (S : St) (x1 : Int32) : Option Int32 :=
  if x1 < 0 then (
    Model_isBin_j17 S)
  else (
    bd (f_Model_tellsOf S (2 : Int32)) fun v_3 =>
    if v_3 ≤ x1 then (
      Model_isBin_j17 S)
    else (
      Model_isBin_j18 S (1 : Int32)))
noncomputable def Model_value_j31 (S : St) (t0 : Int32) : Option Int32 :=
  some t0
noncomputable def Model_value_j30 (S : St) : Option Int32 :=
  Model_value_j31 S (-1 : Int32)
noncomputable def f_Model_value (S : St) (x1 : Int32) (x2 : Int32) : Option Int32 :=
  bd (f_Model_isNumber S x1) fun v_2 =>
  if v_2 = 0 then (
    Model_value_j30 S)
  else (
    bd (f_Model_isField S x2) fun v_5 =>
    if v_5 = 0 then (
      Model_value_j30 S)
    else (
      gd (inb x1 32768) <|
      bd (f_Model_valueOf S (gA S 0 55 x1.toNatClampNeg) x2) fun v_9 =>
      Model_value_j31 S v_9))
noncomputable def Model_share_j18 (S : St) (t0 : Int32) : Option Int32 :=
  some t0
noncomputable def f_Model_share (S : St) (x1 : Int32) : Option Int32 :=
  bd (f_Model_isNumber S x1) fun v_2 =>
  if v_2 = 0 then (
    Model_share_j18 S (-1 : Int32))
  else (
    gd (inb x1 32768) <|
    Model_share_j18 S (gA S 0 56 x1.toNatClampNeg))
noncomputable def f_Model_sum (S : St) : Option Int32 :=
  some (gI S 0 57)
noncomputable def Model_picked_l4 (S : St) (x1 : Int32) (x2 : Int32) (x3 : Int32) : Option ((Int32 × Int32) ⊕ Int32) :=
  if (gI S 0 54) ≤ x3 then (
    some (.inr (-1 : Int32)))
  else (
    gd (inb x3 32768) <|
    nm (x2 + (gA S 0 56 x3.toNatClampNeg)) fun x2_3 =>
    if x2_3 ≤ x1 then (
      nm (x3 + (1 : Int32)) fun x3_5 =>
      some (.inl (x2_3, x3_5)))
    else (
      some (.inr x3)))
noncomputable def f_Model_picked (S : St) (x1 : Int32) : Option Int32 :=
  wh (un2 (Model_picked_l4 S x1)) ((0 : Int32), (0 : Int32))
noncomputable def Model_pick_j21 (S : St) (t0 : Int32) : Option Int32 :=
  some t0
noncomputable def Model_pick_j12 (S : St) : Option Int32 :=
  Model_pick_j21 S (-1 : Int32)
noncomputable def f_Model_pick (S : St) (x1 : Int32) : Option Int32 :=
  if x1 < 0 then (
    Model_pick_j12 S)
  else (
    if x1 < (gI S 0 57) then (
      bd (f_Model_picked S x1) fun v_4 =>
      Model_pick_j21 S v_4)
    else (
      Model_pick_j12 S))
noncomputable def Model_draw_j92 (S : St) (x8 : Int32) : Option (Int32 × St) :=
  some (x8, S)
noncomputable def Model_draw_j11 (S : St) : Option (Int32 × St) :=
  some ((-1 : Int32), S)
noncomputable def f_Model_draw (S : St) (x1 : Int64) (x3 : Int32) : Option (Int32 × St) :=
  if (gI S 0 57) = 0 then (
    Model_draw_j11 S)
  else (
    if 0 ≤ x3 then (
      nm ((((x1 * (31 : Int64)) + (x3.toInt64)) + (1 : Int64)) * (2862933555777941757 : Int64)) fun x4_3 =>
      nm (x4_3 ^^^ (x4_3.toUInt64 >>> ((29 : Int32).toInt64.toUInt64 &&& Int64.toUInt64 63)).toInt64) fun x6_4 =>
      gd (nzL ((gI S 0 57).toInt64)) <|
      bd (f_Model_picked S (((x6_4.toUInt64 >>> ((1 : Int32).toInt64.toUInt64 &&& Int64.toUInt64 63)).toInt64 - (x6_4.toUInt64 >>> ((1 : Int32).toInt64.toUInt64 &&& Int64.toUInt64 63)).toInt64 / ((gI S 0 57).toInt64) * ((gI S 0 57).toInt64)).toInt32)) fun v_7 =>
      if (200 : Int32) ≤ (gI S 0 58) then (
        Model_draw_j92 S v_7)
      else (
        gd (inb v_7 32768) <|
        gd (inb (gI S 0 58) 200) <|
        nm (pA S 0 59 (gI S 0 58).toNatClampNeg (gA S 0 55 v_7.toNatClampNeg)) fun S_11 =>
        nm (pI S_11 0 58 ((gI S_11 0 58) + (1 : Int32))) fun S_12 =>
        Model_draw_j92 S_12 v_7))
    else (
      Model_draw_j11 S))
noncomputable def Model_logged_j35 (S : St) (t0 : Int32) : Option Int32 :=
  some t0
noncomputable def Model_logged_j34 (S : St) : Option Int32 :=
  Model_logged_j35 S (-1 : Int32)
noncomputable def f_Model_logged (S : St) (x1 : Int32) (x2 : Int32) : Option Int32 :=
  if x1 < 0 then (
    Model_logged_j34 S)
  else (
    if (gI S 0 58) ≤ x1 then (
      Model_logged_j34 S)
    else (
      bd (f_Model_isField S x2) fun v_4 =>
      if v_4 = 0 then (
        Model_logged_j34 S)
      else (
        gd (inb x1 200) <|
        bd (f_Model_valueOf S (gA S 0 59 x1.toNatClampNeg) x2) fun v_8 =>
        Model_logged_j35 S v_8)))
noncomputable def Model_fallen_j43_l10 (S : St) (x2 : Int32) (x3 : Int32) : Option ((Int32 × Int32) ⊕ Int32) :=
  nm (x3 + (1 : Int32)) fun x3_9 =>
  some (.inl (x2, x3_9))
noncomputable def Model_fallen_l10 (S : St) (x2 : Int32) (x3 : Int32) : Option ((Int32 × Int32) ⊕ Int32) :=
  if (gI S 0 58) ≤ x3 then (
    some (.inr (-1 : Int32)))
  else (
    gd (inb x3 200) <|
    bd (f_Model_isLawful S (gA S 0 59 x3.toNatClampNeg)) fun v_5 =>
    if v_5 = 0 then (
      if x2 = 0 then (
        some (.inr x3))
      else (
        nm (x2 + (-1 : Int32)) fun x2_8 =>
        Model_fallen_j43_l10 S x2_8 x3))
    else (
      Model_fallen_j43_l10 S x2 x3))
noncomputable def f_Model_fallen (S : St) (x1 : Int32) : Option Int32 :=
  if 0 ≤ x1 then (
    wh (un2 (Model_fallen_l10 S)) (x1, (0 : Int32)))
  else (
    some (-1 : Int32))
noncomputable def Model_bits_l4 (x0 : Int32) (x1 : Int32) (x2 : Int32) : Option ((Int32 × Int32) ⊕ Int32) :=
  if (8 : Int32) ≤ x2 then (
    some (.inr x1))
  else (
    nm (x1 + ((x0 >>> (x2 &&& 31)) &&& (1 : Int32))) fun x1_2 =>
    nm (x2 + (1 : Int32)) fun x2_3 =>
    some (.inl (x1_2, x2_3)))
noncomputable def f_Model_bits (x0 : Int32) : Option Int32 :=
  bd (wh (un2 (Model_bits_l4 x0)) ((0 : Int32), (0 : Int32))) fun x1_4 =>
  some x1_4
noncomputable def Model_quarrel_j99_l20 (S : St) (x1 : Int32) (x2 : Int32) (x3 : Int32) : Option ((Int32 × Int32) ⊕ Int32) :=
  nm (x3 + (1 : Int32)) fun x3_24 =>
  some (.inl (x2, x3_24))
noncomputable def Model_quarrel_j81_l20 (S : St) (x1 : Int32) (x2 : Int32) (x3 : Int32) (t0 : Int32) : Option ((Int32 × Int32) ⊕ Int32) :=
  if t0 = 0 then (
    Model_quarrel_j99_l20 S x1 x2 x3)
  else (
    bd (f_Model_isAny S x3 (0 : Int32)) fun v_22 =>
    if v_22 = 0 then (
      Model_quarrel_j99_l20 S x1 x3 x3)
    else (
      Model_quarrel_j99_l20 S x1 x2 x3))
noncomputable def Model_quarrel_j80_l20 (S : St) (x1 : Int32) (x2 : Int32) (x3 : Int32) : Option ((Int32 × Int32) ⊕ Int32) :=
  Model_quarrel_j81_l20 S x1 x2 x3 (0 : Int32)
noncomputable def Model_quarrel_j76_l20 (S : St) (x1 : Int32) (x2 : Int32) (x3 : Int32) : Option ((Int32 × Int32) ⊕ Int32) :=
  Model_quarrel_j81_l20 S x1 x2 x3 (1 : Int32)
noncomputable def Model_quarrel_l20 (S : St) (x1 : Int32) (x2 : Int32) (x3 : Int32) : Option ((Int32 × Int32) ⊕ Int32) :=
  if (256 : Int32) ≤ x3 then (
    some (.inr x2))
  else (
    if (x3 &&& (x1 ^^^ (-1 : Int32))) = 0 then (
      nm (x3 ^^^ x2) fun x4_8 =>
      bd (f_Model_bits x3) fun v_10 =>
      bd (f_Model_bits x2) fun v_12 =>
      if v_10 < v_12 then (
        Model_quarrel_j76_l20 S x1 x2 x3)
      else (
        bd (f_Model_bits x3) fun v_15 =>
        bd (f_Model_bits x2) fun v_17 =>
        if v_15 = v_17 then (
          if ((x3 &&& x4_8) &&& (-x4_8)) = 0 then (
            Model_quarrel_j80_l20 S x1 x2 x3)
          else (
            Model_quarrel_j76_l20 S x1 x2 x3))
        else (
          Model_quarrel_j80_l20 S x1 x2 x3)))
    else (
      Model_quarrel_j99_l20 S x1 x2 x3))
noncomputable def f_Model_quarrel (S : St) : Option Int32 :=
  bd (f_Model_laws S) fun v_2 =>
  bd (f_Model_isAny S v_2 (0 : Int32)) fun v_4 =>
  if v_4 = 0 then (
    bd (wh (un2 (Model_quarrel_l20 S v_2)) (v_2, (0 : Int32))) fun x2_25 =>
    some x2_25)
  else (
    some (-1 : Int32))
noncomputable def Model_alone_j70_l42 (S : St) (x2 : Int32) (x3 : Int32) (x4 : Int32) : Option ((Int32 × Int32) ⊕ Int32) :=
  nm (x4 + (1 : Int32)) fun x4_15 =>
  some (.inl (x3, x4_15))
noncomputable def Model_alone_l42 (S : St) (x2 : Int32) (x3 : Int32) (x4 : Int32) : Option ((Int32 × Int32) ⊕ Int32) :=
  if (gI S 0 44) ≤ x4 then (
    some (.inr x3))
  else (
    gd (inb x4 32768) <|
    bd (f_Model_laws S) fun v_12 =>
    if ((gA S 0 46 x4.toNatClampNeg) &&& v_12) = x2 then (
      nm (x3 + (1 : Int32)) fun x3_14 =>
      Model_alone_j70_l42 S x2 x3_14 x4)
    else (
      Model_alone_j70_l42 S x2 x3 x4))
noncomputable def Model_alone_j24 (S : St) : Option Int32 :=
  some (-1 : Int32)
noncomputable def f_Model_alone (S : St) (x1 : Int32) : Option Int32 :=
  if x1 < 0 then (
    Model_alone_j24 S)
  else (
    bd (f_Model_tellsOf S (0 : Int32)) fun v_3 =>
    if v_3 ≤ x1 then (
      Model_alone_j24 S)
    else (
      if (((gI S 0 52) >>> (x1 &&& 31)) &&& (1 : Int32)) = 0 then (
        Model_alone_j24 S)
      else (
        bd (f_Model_laws S) fun v_7 =>
        nm (v_7 &&& (((1 : Int32) <<< (x1 &&& 31)) ^^^ (-1 : Int32))) fun x2_8 =>
        bd (wh (un2 (Model_alone_l42 S x2_8)) ((0 : Int32), (0 : Int32))) fun x3_16 =>
        some x3_16)))
noncomputable def Model_meeting_j32_l4 (S : St) (x1 : Int32) (x2 : Int32) (x3 : Int32) : Option ((Int32 × Int32) ⊕ Int32) :=
  nm (x3 + (1 : Int32)) fun x3_6 =>
  some (.inl (x2, x3_6))
noncomputable def Model_meeting_l4 (S : St) (x1 : Int32) (x2 : Int32) (x3 : Int32) : Option ((Int32 × Int32) ⊕ Int32) :=
  if (gI S 0 54) ≤ x3 then (
    some (.inr x2))
  else (
    gd (inb x3 32768) <|
    gd (inb (gA S 0 55 x3.toNatClampNeg) 32768) <|
    if ((gA S 0 48 (gA S 0 55 x3.toNatClampNeg).toNatClampNeg) &&& x1) = x1 then (
      nm (x2 + (1 : Int32)) fun x2_5 =>
      Model_meeting_j32_l4 S x1 x2_5 x3)
    else (
      Model_meeting_j32_l4 S x1 x2 x3))
noncomputable def f_Model_meeting (S : St) (x1 : Int32) : Option Int32 :=
  bd (wh (un2 (Model_meeting_l4 S x1)) ((0 : Int32), (0 : Int32))) fun x2_7 =>
  some x2_7
noncomputable def Model_meets_j19 (S : St) (t0 : Int32) : Option Int32 :=
  some t0
noncomputable def f_Model_meets (S : St) (x1 : Int32) : Option Int32 :=
  bd (f_Model_isBin S x1) fun v_2 =>
  if v_2 = 0 then (
    Model_meets_j19 S (-1 : Int32))
  else (
    bd (f_Model_meeting S ((1 : Int32) <<< (x1 &&& 31))) fun v_5 =>
    Model_meets_j19 S v_5)
noncomputable def Model_cross_j31 (S : St) (t0 : Int32) : Option Int32 :=
  some t0
noncomputable def Model_cross_j30 (S : St) : Option Int32 :=
  Model_cross_j31 S (-1 : Int32)
noncomputable def f_Model_cross (S : St) (x1 : Int32) (x2 : Int32) : Option Int32 :=
  bd (f_Model_isBin S x1) fun v_2 =>
  if v_2 = 0 then (
    Model_cross_j30 S)
  else (
    bd (f_Model_isBin S x2) fun v_5 =>
    if v_5 = 0 then (
      Model_cross_j30 S)
    else (
      bd (f_Model_meeting S (((1 : Int32) <<< (x1 &&& 31)) ||| ((1 : Int32) <<< (x2 &&& 31)))) fun v_8 =>
      Model_cross_j31 S v_8))
noncomputable def Model_hitsOf_l4 (S : St) (x1 : Int32) (x2 : Int32) (x3 : Int32) : Option ((Int32 × Int32) ⊕ Int32) :=
  if (gI S 0 58) ≤ x3 then (
    some (.inr x2))
  else (
    gd (inb x3 200) <|
    gd (inb (gA S 0 59 x3.toNatClampNeg) 32768) <|
    nm (x2 + (((gA S 0 48 (gA S 0 59 x3.toNatClampNeg).toNatClampNeg) >>> (x1 &&& 31)) &&& (1 : Int32))) fun x2_4 =>
    nm (x3 + (1 : Int32)) fun x3_5 =>
    some (.inl (x2_4, x3_5)))
noncomputable def f_Model_hitsOf (S : St) (x1 : Int32) : Option Int32 :=
  bd (wh (un2 (Model_hitsOf_l4 S x1)) ((0 : Int32), (0 : Int32))) fun x2_6 =>
  some x2_6
noncomputable def Model_hits_j17 (S : St) (t0 : Int32) : Option Int32 :=
  some t0
noncomputable def f_Model_hits (S : St) (x1 : Int32) : Option Int32 :=
  bd (f_Model_isBin S x1) fun v_2 =>
  if v_2 = 0 then (
    Model_hits_j17 S (-1 : Int32))
  else (
    bd (f_Model_hitsOf S x1) fun v_5 =>
    Model_hits_j17 S v_5)
noncomputable def Model_without_j27_l4 (S : St) (x1 : Int32) (x2 : Int32) : Option ((Int32 × Int32) ⊕ Int32) :=
  nm (x2 + (1 : Int32)) fun x2_8 =>
  some (.inl (x1, x2_8))
noncomputable def Model_without_l4 (S : St) (x1 : Int32) (x2 : Int32) : Option ((Int32 × Int32) ⊕ Int32) :=
  bd (f_Model_tellsOf S (2 : Int32)) fun v_2 =>
  if v_2 ≤ x2 then (
    some (.inr x1))
  else (
    bd (f_Model_hitsOf S x2) fun v_5 =>
    if v_5 = 0 then (
      nm (x1 ||| ((1 : Int32) <<< (x2 &&& 31))) fun x1_7 =>
      Model_without_j27_l4 S x1_7 x2)
    else (
      Model_without_j27_l4 S x1 x2))
noncomputable def f_Model_without (S : St) : Option Int32 :=
  bd (wh (un2 (Model_without_l4 S)) ((0 : Int32), (0 : Int32))) fun x1_9 =>
  some x1_9
noncomputable def Model_wants_l4 (S : St) (x1 : Int32) (x2 : Int32) : Option ((Int32 × Int32) ⊕ Int32) :=
  if (gI S 0 54) ≤ x2 then (
    some (.inr x1))
  else (
    gd (inb x2 32768) <|
    gd (inb (gA S 0 55 x2.toNatClampNeg) 32768) <|
    nm (x1 ||| (gA S 0 48 (gA S 0 55 x2.toNatClampNeg).toNatClampNeg)) fun x1_4 =>
    nm (x2 + (1 : Int32)) fun x2_5 =>
    some (.inl (x1_4, x2_5)))
noncomputable def Model_wants_l44 (S : St) (x2 : Int32) : Option ((St × Int32) ⊕ St) :=
  if (256 : Int32) ≤ x2 then (
    some (.inr S))
  else (
    gd (inb x2 256) <|
    nm (pA S 0 60 x2.toNatClampNeg (-1 : Int32)) fun S_13 =>
    nm (x2 + (1 : Int32)) fun x2_14 =>
    some (.inl (S_13, x2_14)))
noncomputable def Model_wants_l66 (S : St) (x2 : Int32) : Option ((St × Int32) ⊕ St) :=
  if (gI S 0 54) ≤ x2 then (
    some (.inr S))
  else (
    gd (inb x2 32768) <|
    gd (inb (gA S 0 55 x2.toNatClampNeg) 32768) <|
    gd (inb ((gA S 0 48 (gA S 0 55 x2.toNatClampNeg).toNatClampNeg) &&& (gI S 0 62)) 256) <|
    nm (pA S 0 60 ((gA S 0 48 (gA S 0 55 x2.toNatClampNeg).toNatClampNeg) &&& (gI S 0 62)).toNatClampNeg x2) fun S_21 =>
    nm (x2 + (1 : Int32)) fun x2_22 =>
    some (.inl (S_21, x2_22)))
noncomputable def f_Model_wants (S : St) : Option St :=
  bd (wh (un2 (Model_wants_l4 S)) ((0 : Int32), (0 : Int32))) fun x1_6 =>
  bd (f_Model_without S) fun v_9 =>
  nm (pI S 0 62 (x1_6 &&& v_9)) fun S_10 =>
  bd (wh (un2 Model_wants_l44) (S_10, (0 : Int32))) fun S_15 =>
  bd (wh (un2 Model_wants_l66) (S_15, (0 : Int32))) fun S_23 =>
  some S_23
noncomputable def Model_need_j24_l2 (S : St) (x1 : Int32) (x2 : Int32) (x3 : Int32) (t1 : Int32) (t2 : Int32) : Option ((St × Int32) ⊕ St) :=
  gd (inb t1 256) <|
  nm (pA S 0 61 t1.toNatClampNeg t2) fun S_4 =>
  nm (x3 + (1 : Int32)) fun x3_5 =>
  some (.inl (S_4, x3_5))
noncomputable def Model_need_l2 (x1 : Int32) (x2 : Int32) (S : St) (x3 : Int32) : Option ((St × Int32) ⊕ St) :=
  if (256 : Int32) ≤ x3 then (
    some (.inr S))
  else (
    if x3 = 0 then (
      Model_need_j24_l2 S x1 x2 x3 x3 (0 : Int32))
    else (
      Model_need_j24_l2 S x1 x2 x3 x3 (9 : Int32)))
noncomputable def Model_need_j121_l54 (S : St) (x1 : Int32) (x2 : Int32) (x3 : Int32) (x4 : Int32) : Option ((St × Int32) ⊕ St) :=
  nm (x4 + (1 : Int32)) fun x4_20 =>
  some (.inl (S, x4_20))
noncomputable def Model_need_l54 (x1 : Int32) (x2 : Int32) (x3 : Int32) (S : St) (x4 : Int32) : Option ((St × Int32) ⊕ St) :=
  if (256 : Int32) ≤ x4 then (
    some (.inr S))
  else (
    gd (inb x4 256) <|
    if (gA S 0 60 x4.toNatClampNeg) ≤ x2 then (
      Model_need_j121_l54 S x1 x2 x3 x4)
    else (
      if (x4 &&& x3) = 0 then (
        Model_need_j121_l54 S x1 x2 x3 x4)
      else (
        gd (inb (x3 &&& (x4 ^^^ (-1 : Int32))) 256) <|
        gd (inb x3 256) <|
        if (gA S 0 61 x3.toNatClampNeg) ≤ ((gA S 0 61 (x3 &&& (x4 ^^^ (-1 : Int32))).toNatClampNeg) + (1 : Int32)) then (
          Model_need_j121_l54 S x1 x2 x3 x4)
        else (
          gd (inb (x3 &&& (x4 ^^^ (-1 : Int32))) 256) <|
          gd (inb x3 256) <|
          nm (pA S 0 61 x3.toNatClampNeg ((gA S 0 61 (x3 &&& (x4 ^^^ (-1 : Int32))).toNatClampNeg) + (1 : Int32))) fun S_19 =>
          Model_need_j121_l54 S_19 x1 x2 x3 x4))))
noncomputable def Model_need_j127_l33 (S : St) (x1 : Int32) (x2 : Int32) (x3 : Int32) : Option ((St × Int32) ⊕ St) :=
  nm (x3 + (1 : Int32)) fun x3_23 =>
  some (.inl (S, x3_23))
noncomputable def Model_need_l33 (x1 : Int32) (x2 : Int32) (S : St) (x3 : Int32) : Option ((St × Int32) ⊕ St) :=
  if (256 : Int32) ≤ x3 then (
    some (.inr S))
  else (
    if (x3 &&& (x1 ^^^ (-1 : Int32))) = 0 then (
      bd (wh (un2 (Model_need_l54 x1 x2 x3)) (S, (1 : Int32))) fun S_21 =>
      Model_need_j127_l33 S_21 x1 x2 x3)
    else (
      Model_need_j127_l33 S x1 x2 x3))
noncomputable def f_Model_need (S : St) (x1 : Int32) (x2 : Int32) : Option (Int32 × St) :=
  bd (wh (un2 (Model_need_l2 x1 x2)) (S, (0 : Int32))) fun S_6 =>
  bd (wh (un2 (Model_need_l33 x1 x2)) (S_6, (1 : Int32))) fun S_24 =>
  gd (inb x1 256) <|
  some ((gA S_24 0 61 x1.toNatClampNeg), S_24)
noncomputable def f_Model_fill (S : St) : Option (Int32 × St) :=
  bd (f_Model_wants S) fun S_2 =>
  bd2 (f_Model_need S_2 (gI S_2 0 62) (-1 : Int32)) fun v_4 S_5 =>
  some (v_4, S_5)
noncomputable def Model_fills_l45 (x1 : Int32) (x2 : Int32) (x3 : Int32) (x4 : Int32) (x5 : Int32) (S : St) (x6 : Int32) : Option ((St × Int32) ⊕ St) :=
  if (256 : Int32) ≤ x6 then (
    some (.inr S))
  else (
    gd (inb x6 256) <|
    nm (pA S 0 64 x6.toNatClampNeg (vp_nar .boolean (0 : Int32))) fun S_12 =>
    nm (x6 + (1 : Int32)) fun x6_13 =>
    some (.inl (S_12, x6_13)))
noncomputable def Model_fills_j144_l70 (S : St) (x1 : Int32) (x2 : Int32) (x3 : Int32) (x4 : Int32) (x5 : Int32) (t0 : Int32) : Option ((St × Int32 × Int32) ⊕ (St × Int32)) :=
  some (.inl (S, x4, t0))
noncomputable def Model_fills_l70 (x1 : Int32) (x2 : Int32) (x3 : Int32) (x5 : Int32) (S : St) (x4 : Int32) (x6 : Int32) : Option ((St × Int32 × Int32) ⊕ (St × Int32)) :=
  if x6 = 0 then (
    nm (x4 + (1 : Int32)) fun x4_17 =>
    gd (inb x4_17 32768) <|
    gd (inb (gA S 0 55 x4_17.toNatClampNeg) 32768) <|
    nm ((gA S 0 48 (gA S 0 55 x4_17.toNatClampNeg).toNatClampNeg) &&& (gI S 0 62)) fun x7_20 =>
    gd (inb x7_20 256) <|
    if (gA S 0 64 x7_20.toNatClampNeg) = 0 then (
      gd (inb x7_20 256) <|
      nm (pA S 0 64 x7_20.toNatClampNeg (vp_nar .boolean (1 : Int32))) fun S_24 =>
      bd2 (f_Model_need S_24 (x3 &&& (x7_20 ^^^ (-1 : Int32))) x4_17) fun v_26 S_27 =>
      if ((x2 - x5) - (1 : Int32)) < v_26 then (
        Model_fills_j144_l70 S_27 x1 x2 x3 x4_17 x5 (0 : Int32))
      else (
        Model_fills_j144_l70 S_27 x1 x2 x3 x4_17 x5 (1 : Int32)))
    else (
      some (.inl (S, x4_17, x6))))
  else (
    some (.inr (S, x4)))
noncomputable def Model_fills_l36 (x1 : Int32) (x2 : Int32) (S : St) (x3 : Int32) (x4 : Int32) (x5 : Int32) : Option ((St × Int32 × Int32 × Int32) ⊕ St) :=
  if x1 < x5 then (
    some (.inr S))
  else (
    bd (wh (un2 (Model_fills_l45 x1 x2 x3 x4 x5)) (S, (0 : Int32))) fun S_14 =>
    bd2 (wh (un3 (Model_fills_l70 x1 x2 x3 x5)) (S_14, x4, (0 : Int32))) fun S_29 x4_30 =>
    gd (inb x4_30 32768) <|
    gd (inb (gA S_29 0 55 x4_30.toNatClampNeg) 32768) <|
    nm (x3 &&& (((gA S_29 0 48 (gA S_29 0 55 x4_30.toNatClampNeg).toNatClampNeg) &&& (gI S_29 0 62)) ^^^ (-1 : Int32))) fun x3_34 =>
    gd (inb x5 8) <|
    nm (pA S_29 0 63 x5.toNatClampNeg x4_30) fun S_36 =>
    nm (x5 + (1 : Int32)) fun x5_37 =>
    some (.inl (S_36, x3_34, x4_30, x5_37)))
noncomputable def Model_fills_j23 (S : St) : Option (Int32 × St) :=
  some ((-1 : Int32), S)
noncomputable def f_Model_fills (S : St) (x1 : Int32) : Option (Int32 × St) :=
  bd (f_Model_wants S) fun S_2 =>
  bd2 (f_Model_need S_2 (gI S_2 0 62) (-1 : Int32)) fun v_4 S_5 =>
  if x1 < 0 then (
    Model_fills_j23 S_5)
  else (
    if x1 < v_4 then (
      nm (gI S_5 0 62) fun x3_8 =>
      bd (wh (un4 (Model_fills_l36 x1 v_4)) (S_5, x3_8, (-1 : Int32), (0 : Int32))) fun S_38 =>
      gd (inb x1 8) <|
      some ((gA S_38 0 63 x1.toNatClampNeg), S_38))
    else (
      Model_fills_j23 S_5))
noncomputable def Model_best_j60_l12 (S : St) (x1 : Int32) (x2 : Int32) (x3 : Int32) (x4 : Int32) : Option ((Int32 × Int32 × Int32) ⊕ Int32) :=
  nm (x4 + (1 : Int32)) fun x4_10 =>
  some (.inl (x2, x3, x4_10))
noncomputable def Model_best_j54_l12 (S : St) (x1 : Int32) (x4 : Int32) (x5 : Int32) : Option ((Int32 × Int32 × Int32) ⊕ Int32) :=
  Model_best_j60_l12 S x1 x4 x5 x4
noncomputable def Model_best_l12 (S : St) (x1 : Int32) (x2 : Int32) (x3 : Int32) (x4 : Int32) : Option ((Int32 × Int32 × Int32) ⊕ Int32) :=
  if (gI S 0 54) ≤ x4 then (
    some (.inr x2))
  else (
    gd (inb x4 32768) <|
    gd (inb (gA S 0 55 x4.toNatClampNeg) 32768) <|
    bd (f_Model_bits ((gA S 0 48 (gA S 0 55 x4.toNatClampNeg).toNatClampNeg) &&& x1)) fun v_7 =>
    if x2 = (-1 : Int32) then (
      Model_best_j54_l12 S x1 x4 v_7)
    else (
      if x3 < v_7 then (
        Model_best_j54_l12 S x1 x4 v_7)
      else (
        Model_best_j60_l12 S x1 x2 x3 x4)))
noncomputable def f_Model_best (S : St) : Option Int32 :=
  bd (f_Model_without S) fun v_2 =>
  bd (wh (un3 (Model_best_l12 S v_2)) ((-1 : Int32), (0 : Int32), (0 : Int32))) fun x2_11 =>
  some x2_11
noncomputable def Model_least_l54 (S : St) (x1 : Int32) (x2 : Int32) (x3 : Int32) (x4 : Int32) (x5 : Int32) (x6 : Int32) : Option ((Int32 × Int32) ⊕ Int32) :=
  gd (inb (gI S 0 18) 2) <|
  if (gA S 0 20 (gI S 0 18).toNatClampNeg) ≤ x6 then (
    some (.inr x5))
  else (
    gd (inb x4 32768) <|
    bd (f_Model_valueOf S (gA S 0 55 x4.toNatClampNeg) x6) fun v_12 =>
    gd (inb (((6 : Int32) * (gI S 0 18)) + x6) 12) <|
    nm (x5 + (v_12 - (gA S 0 22 (((6 : Int32) * (gI S 0 18)) + x6).toNatClampNeg))) fun x5_14 =>
    nm (x6 + (1 : Int32)) fun x6_15 =>
    some (.inl (x5_14, x6_15)))
noncomputable def Model_least_j128_l17 (S : St) (x1 : Int32) (x2 : Int32) (x3 : Int32) (x4 : Int32) : Option ((Int32 × Int32 × Int32) ⊕ Int32) :=
  nm (x4 + (1 : Int32)) fun x4_20 =>
  some (.inl (x2, x3, x4_20))
noncomputable def Model_least_j122_l17 (S : St) (x1 : Int32) (x4 : Int32) (x5 : Int32) : Option ((Int32 × Int32 × Int32) ⊕ Int32) :=
  Model_least_j128_l17 S x1 x4 x5 x4
noncomputable def Model_least_l17 (S : St) (x1 : Int32) (x2 : Int32) (x3 : Int32) (x4 : Int32) : Option ((Int32 × Int32 × Int32) ⊕ Int32) :=
  if (gI S 0 54) ≤ x4 then (
    some (.inr x2))
  else (
    gd (inb x4 32768) <|
    gd (inb (gA S 0 55 x4.toNatClampNeg) 32768) <|
    if (((gA S 0 48 (gA S 0 55 x4.toNatClampNeg).toNatClampNeg) >>> (x1 &&& 31)) &&& (1 : Int32)) = 0 then (
      Model_least_j128_l17 S x1 x2 x3 x4)
    else (
      bd (wh (un2 (Model_least_l54 S x1 x2 x3 x4)) ((0 : Int32), (0 : Int32))) fun x5_16 =>
      if x2 = (-1 : Int32) then (
        Model_least_j122_l17 S x1 x4 x5_16)
      else (
        if x5_16 < x3 then (
          Model_least_j122_l17 S x1 x4 x5_16)
        else (
          Model_least_j128_l17 S x1 x2 x3 x4))))
noncomputable def f_Model_least (S : St) (x1 : Int32) : Option Int32 :=
  bd (f_Model_isBin S x1) fun v_2 =>
  if v_2 = 0 then (
    some (-1 : Int32))
  else (
    bd (wh (un3 (Model_least_l17 S x1)) ((-1 : Int32), (0 : Int32), (0 : Int32))) fun x2_21 =>
    some x2_21)
noncomputable def Model_counts_l42 (x1 : Int32) (x2 : Int32) (S : St) (x3 : Int32) : Option ((St × Int32) ⊕ St) :=
  gd (inb (gI S 0 18) 2) <|
  if (gA S 0 20 (gI S 0 18).toNatClampNeg) ≤ x3 then (
    some (.inr S))
  else (
    gd (inb x2 32768) <|
    bd (f_Model_valueOf S (gA S 0 55 x2.toNatClampNeg) x3) fun v_10 =>
    gd (inb x3 6) <|
    nm (pA S 0 50 x3.toNatClampNeg v_10) fun S_12 =>
    nm (x3 + (1 : Int32)) fun x3_13 =>
    some (.inl (S_12, x3_13)))
noncomputable def Model_counts_l104 (x1 : Int32) (x2 : Int32) (x3 : Int32) (S : St) (x4 : Int32) (x5 : Int32) : Option ((St × Int32 × Int32) ⊕ (St × Int32)) :=
  bd (f_Model_tellsOf S (3 : Int32)) fun v_21 =>
  if v_21 ≤ x5 then (
    some (.inr (S, x4)))
  else (
    if x4 = 0 then (
      some (.inr (S, x4)))
    else (
      bd (f_Model_condOf S (3 : Int32) x5) fun v_25 =>
      bd2 (f_Model_holds S v_25) fun v_27 S_28 =>
      nm (x5 + (1 : Int32)) fun x5_29 =>
      some (.inl (S_28, v_27, x5_29))))
noncomputable def Model_counts_j138_l80 (S : St) (x1 : Int32) (x2 : Int32) (x3 : Int32) (x4 : Int32) : Option ((St × Int32) ⊕ St) :=
  gd (inb (((64 : Int32) * x2) + x3) 4096) <|
  nm (pA S 0 65 (((64 : Int32) * x2) + x3).toNatClampNeg (vp_nar .boolean x4)) fun S_34 =>
  nm (x3 + (1 : Int32)) fun x3_35 =>
  some (.inl (S_34, x3_35))
noncomputable def Model_counts_l80 (x1 : Int32) (x2 : Int32) (S : St) (x3 : Int32) : Option ((St × Int32) ⊕ St) :=
  if (gI S 0 54) ≤ x3 then (
    some (.inr S))
  else (
    gd (inb x3 32768) <|
    bd (f_Model_looksAt S (gA S 0 55 x3.toNatClampNeg)) fun S_19 =>
    bd2 (wh (un3 (Model_counts_l104 x1 x2 x3)) (S_19, (1 : Int32), (0 : Int32))) fun S_30 x4_31 =>
    Model_counts_j138_l80 S_30 x1 x2 x3 x4_31)
noncomputable def Model_counts_l32 (x1 : Int32) (S : St) (x2 : Int32) : Option ((St × Int32) ⊕ St) :=
  if (gI S 0 54) ≤ x2 then (
    some (.inr S))
  else (
    bd (wh (un2 (Model_counts_l42 x1 x2)) (S, (0 : Int32))) fun S_14 =>
    bd (wh (un2 (Model_counts_l80 x1 x2)) (S_14, (0 : Int32))) fun S_36 =>
    nm (x2 + (1 : Int32)) fun x2_38 =>
    some (.inl (S_36, x2_38)))
noncomputable def Model_counts_l165 (x1 : Int32) (S : St) (x2 : Int32) : Option ((St × Int32) ⊕ St) :=
  if (gI S 0 54) ≤ x2 then (
    some (.inr S))
  else (
    gd (inb ((64 : Int32) + x2) 704) <|
    nm (pB S 0 66 ((64 : Int32) + x2).toNatClampNeg (1 : Int64)) fun S_43 =>
    nm (x2 + (1 : Int32)) fun x2_44 =>
    some (.inl (S_43, x2_44)))
noncomputable def Model_counts_j255_l212 (S : St) (x1 : Int32) (x2 : Int32) (x3 : Int32) (x4 : Int64) (x6 : Int32) : Option ((Int64 × Int32) ⊕ Int64) :=
  nm (x6 + (1 : Int32)) fun x6_54 =>
  some (.inl (x4, x6_54))
noncomputable def Model_counts_l212 (S : St) (x1 : Int32) (x2 : Int32) (x3 : Int32) (x4 : Int64) (x6 : Int32) : Option ((Int64 × Int32) ⊕ Int64) :=
  if (gI S 0 54) ≤ x6 then (
    some (.inr x4))
  else (
    gd (inb (((64 : Int32) * x3) + x6) 4096) <|
    if (gA S 0 65 (((64 : Int32) * x3) + x6).toNatClampNeg) = 0 then (
      Model_counts_j255_l212 S x1 x2 x3 x4 x6)
    else (
      gd (inb (((64 : Int32) * (x2 - (1 : Int32))) + x6) 704) <|
      nm (x4 + (gB S 0 66 (((64 : Int32) * (x2 - (1 : Int32))) + x6).toNatClampNeg)) fun x4_53 =>
      Model_counts_j255_l212 S x1 x2 x3 x4_53 x6))
noncomputable def Model_counts_l198 (x1 : Int32) (x2 : Int32) (S : St) (x3 : Int32) : Option ((St × Int32) ⊕ St) :=
  if (gI S 0 54) ≤ x3 then (
    some (.inr S))
  else (
    bd (wh (un2 (Model_counts_l212 S x1 x2 x3)) ((0 : Int64), (0 : Int32))) fun x4_55 =>
    gd (inb (((64 : Int32) * x2) + x3) 704) <|
    nm (pB S 0 66 (((64 : Int32) * x2) + x3).toNatClampNeg x4_55) fun S_58 =>
    nm (x3 + (1 : Int32)) fun x3_59 =>
    some (.inl (S_58, x3_59)))
noncomputable def Model_counts_l191 (x1 : Int32) (S : St) (x2 : Int32) : Option ((St × Int32) ⊕ St) :=
  if x1 < x2 then (
    some (.inr S))
  else (
    bd (wh (un2 (Model_counts_l198 x1 x2)) (S, (0 : Int32))) fun S_60 =>
    nm (x2 + (1 : Int32)) fun x2_62 =>
    some (.inl (S_60, x2_62)))
noncomputable def Model_counts_j28 (S : St) : Option (Int32 × St) :=
  some ((0 : Int32), S)
noncomputable def f_Model_counts (S : St) (x1 : Int32) : Option (Int32 × St) :=
  if x1 < (1 : Int32) then (
    Model_counts_j28 S)
  else (
    if (10 : Int32) < x1 then (
      Model_counts_j28 S)
    else (
      if (gI S 0 54) < (1 : Int32) then (
        Model_counts_j28 S)
      else (
        if (gI S 0 54) ≤ (64 : Int32) then (
          bd (wh (un2 (Model_counts_l32 x1)) (S, (0 : Int32))) fun S_39 =>
          bd (wh (un2 (Model_counts_l165 x1)) (S_39, (0 : Int32))) fun S_45 =>
          bd (wh (un2 (Model_counts_l191 x1)) (S_45, (2 : Int32))) fun S_63 =>
          some ((1 : Int32), S_63))
        else (
          Model_counts_j28 S))))
noncomputable def Model_rows_l17 (S : St) (x1 : Int32) (x2 : Int64) (x4 : Int32) : Option ((Int64 × Int32) ⊕ Int64) :=
  if (gI S 0 54) ≤ x4 then (
    some (.inr x2))
  else (
    gd (inb (((64 : Int32) * x1) + x4) 704) <|
    nm (x2 + (gB S 0 66 (((64 : Int32) * x1) + x4).toNatClampNeg)) fun x2_7 =>
    nm (x4 + (1 : Int32)) fun x4_8 =>
    some (.inl (x2_7, x4_8)))
noncomputable def f_Model_rows (S : St) (x1 : Int32) : Option (Int64 × St) :=
  bd2 (f_Model_counts S x1) fun v_2 S_3 =>
  if v_2 = 0 then (
    some ((-1 : Int64), S_3))
  else (
    bd (wh (un2 (Model_rows_l17 S_3 x1)) ((0 : Int64), (0 : Int32))) fun x2_9 =>
    some (x2_9, S_3))
noncomputable def Model_row_j137_l49 (S : St) (x1 : Int32) (x4 : Int32) (x5 : Int64) (x7 : Int32) (x8 : Int32) (x9 : Int32) (x10 : Int32) : Option ((Int64 × Int32 × Int32) ⊕ (Int64 × Int32)) :=
  nm (x10 + (1 : Int32)) fun x10_18 =>
  some (.inl (x5, x9, x10_18))
noncomputable def Model_row_j89_l49 (S : St) (x1 : Int32) (x4 : Int32) (x5 : Int64) (x7 : Int32) (x8 : Int32) (x9 : Int32) (x10 : Int32) : Option ((Int64 × Int32 × Int32) ⊕ (Int64 × Int32)) :=
  gd (inb (((64 : Int32) * (x1 - x8)) + x10) 704) <|
  if 0 ≤ (lg_cmp x5 (gB S 0 66 (((64 : Int32) * (x1 - x8)) + x10).toNatClampNeg)) then (
    gd (inb (((64 : Int32) * (x1 - x8)) + x10) 704) <|
    nm (x5 - (gB S 0 66 (((64 : Int32) * (x1 - x8)) + x10).toNatClampNeg)) fun x5_17 =>
    Model_row_j137_l49 S x1 x4 x5_17 x7 x8 x9 x10)
  else (
    Model_row_j137_l49 S x1 x4 x5 x7 x8 x10 x10)
noncomputable def Model_row_l49 (S : St) (x1 : Int32) (x4 : Int32) (x7 : Int32) (x8 : Int32) (x5 : Int64) (x9 : Int32) (x10 : Int32) : Option ((Int64 × Int32 × Int32) ⊕ (Int64 × Int32)) :=
  if (gI S 0 54) ≤ x10 then (
    some (.inr (x5, x9)))
  else (
    if x9 = (-1 : Int32) then (
      if x7 = (-1 : Int32) then (
        Model_row_j89_l49 S x1 x4 x5 x7 x8 x9 x10)
      else (
        gd (inb (((64 : Int32) * x7) + x10) 4096) <|
        if (gA S 0 65 (((64 : Int32) * x7) + x10).toNatClampNeg) = 0 then (
          Model_row_j137_l49 S x1 x4 x5 x7 x8 x9 x10)
        else (
          Model_row_j89_l49 S x1 x4 x5 x7 x8 x9 x10)))
    else (
      some (.inr (x5, x9))))
noncomputable def Model_row_j143_l36 (S : St) (x1 : Int32) (x4 : Int32) (x5 : Int64) (x8 : Int32) (x9 : Int32) : Option ((Int64 × Int32 × Int32) ⊕ (Int32 × St)) :=
  if x9 = (-1 : Int32) then (
    some (.inr ((-1 : Int32), S)))
  else (
    nm (x8 + (1 : Int32)) fun x8_23 =>
    some (.inl (x5, x9, x8_23)))
noncomputable def Model_row_l36 (S : St) (x1 : Int32) (x4 : Int32) (x5 : Int64) (x7 : Int32) (x8 : Int32) : Option ((Int64 × Int32 × Int32) ⊕ (Int32 × St)) :=
  if x4 < x8 then (
    some (.inr (x7, S)))
  else (
    bd2 (wh (un3 (Model_row_l49 S x1 x4 x7 x8)) (x5, (-1 : Int32), (0 : Int32))) fun x5_19 x9_20 =>
    Model_row_j143_l36 S x1 x4 x5_19 x8 x9_20)
noncomputable def Model_row_j25 (S : St) : Option (Int32 × St) :=
  some ((-1 : Int32), S)
noncomputable def f_Model_row (S : St) (x1 : Int32) (x2 : Int64) (x4 : Int32) : Option (Int32 × St) :=
  if (lg_cmp x2 (0 : Int64)) < 0 then (
    Model_row_j25 S)
  else (
    if x4 < 0 then (
      Model_row_j25 S)
    else (
      if x1 ≤ x4 then (
        Model_row_j25 S)
      else (
        bd2 (f_Model_counts S x1) fun v_5 S_6 =>
        if v_5 = 0 then (
          Model_row_j25 S_6)
        else (
          wh (un3 (Model_row_l36 S_6 x1 x4)) (x2, (-1 : Int32), (0 : Int32))))))
noncomputable def Model_count_j62 (S : St) (x1 : Int32) : Option Int32 :=
  bd (f_Model_tellsOf S (x1 - (1 : Int32))) fun v_12 =>
  some v_12
noncomputable def f_Model_count (S : St) (x1 : Int32) : Option Int32 :=
  if x1 = (0 : Int32) then (
    gd (inb (gI S 0 18) 2) <|
    some (gA S 0 20 (gI S 0 18).toNatClampNeg))
  else
  if x1 = (1 : Int32) then (
    Model_count_j62 S x1)
  else
  if x1 = (2 : Int32) then (
    Model_count_j62 S x1)
  else
  if x1 = (3 : Int32) then (
    Model_count_j62 S x1)
  else
  if x1 = (4 : Int32) then (
    Model_count_j62 S x1)
  else
  if x1 = (5 : Int32) then (
    Model_count_j62 S x1)
  else
  if x1 = (6 : Int32) then (
    some (gI S 0 44))
  else
  if x1 = (7 : Int32) then (
    some (gI S 0 58))
  else
  if x1 = (8 : Int32) then (
    some (gI S 0 2))
  else
  (
    some (-1 : Int32))
