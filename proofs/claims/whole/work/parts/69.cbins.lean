/-! the class: fallen, bins, hits -/
variable {T : Tx} {on tn : Nat} {lg : List Nat} {tb : Nat → Int32} {pl : Int32} {S S' : St}
theorem c_isLawful (h : cInv T on lg tn tb pl S) (hf : ¬ gI S 4 16 = 0) {i : Nat} (hi : i < tIn T) : f_Chart_isLawful S (nI i) = some (b2i (isL T on (keS T on) i)) := by
  obtain ⟨hw, -, -, hN, hM, hF, -⟩ := h
  obtain ⟨h13, -, h10, -⟩ := hF.2.2 hf
  have ho := on_lt hw hF.2.1
  have hk := keS_lt hw on
  have hml := mk_lt hw (!decide (gI S 4 14 = 0)) i
  have hkl : keS T on <<< 8 < 65536 := by rw [Nat.shiftLeft_eq]; omega
  have hor : on ||| keS T on <<< 8 < 2 ^ 16 := Nat.or_lt_two_pow (by omega) hkl
  have hand : mkN T (!decide (gI S 4 14 = 0)) i &&& (on ||| keS T on <<< 8) < 2 ^ 16 := Nat.lt_of_le_of_lt Nat.and_le_right hor
  unfold f_Chart_isLawful Chart_isLawful_j29
  rw [mb_nm, hF.1, h10, ke_shl hk, nI_or, c_marksOf hw hN h13 hM hi, mb_bd, nI_and]
  have e : (nI (mkN T (!decide (gI S 4 14 = 0)) i &&& (on ||| keS T on <<< 8)) = nI (on ||| keS T on <<< 8)) = (isL T on (keS T on) i = true) := by
    rw [mb_eq (by omega) (by omega)]
    have m1 := mk_on hw (!decide (gI S 4 14 = 0)) i ho
    have m2 := mk_keI hw (!decide (gI S 4 14 = 0)) i hk
    have b1 : mkN T (!decide (gI S 4 14 = 0)) i &&& on < 256 := Nat.lt_of_le_of_lt Nat.and_le_right ho
    have b2 : mkN T (!decide (gI S 4 14 = 0)) i &&& keS T on <<< 8 < 65536 := Nat.lt_of_le_of_lt Nat.and_le_right hkl
    rw [nI_and, mb_eq (by omega) (by omega)] at m1 m2
    unfold isL
    rw [Bool.and_eq_true]
    refine propext ⟨fun z => ?_, fun z => ?_⟩
    · have := (or_shl ho hk _).mp z
      exact ⟨m1.mp this.1, m2.mp this.2⟩
    · exact (or_shl ho hk _).mpr ⟨m1.mpr z.1, m2.mpr z.2⟩
  by_cases c : isL T on (keS T on) i = true
  · rw [if_pos (by rw [e]; exact c), c]; rfl
  · rw [if_neg (by rw [e]; exact c), Bool.eq_false_iff.mpr c]; rfl
theorem cc_fallen (h : cInv T on lg tn tb pl S) (x : Int32) : ∃ S', f_Lots_fallen S x = some (spFallen T on lg x, S') ∧ cInv T on lg tn tb pl S' ∧ Ph S + kMark S ≤ Ph S' := by
  obtain ⟨S1, h1, hi, hf, hp⟩ := c_refresh h
  refine ⟨S1, ?_, hi, hp⟩
  have hL := hi.2.2.2.2.2.2.2.2.1
  have hl1 := hL.1
  have hfl := fl_len T on lg lg.length
  unfold f_Lots_fallen f_Log_unlawful
  rw [h1, mb_bd]
  by_cases c0 : x < 0
  · have : wh (un2 (Log_unlawful_l5 S1 x)) ((0 : Int32), (0 : Int32)) = some (-1) := by
      refine wh_inr ?_
      show Log_unlawful_l5 S1 x 0 0 = _
      unfold Log_unlawful_l5 Log_unlawful_j48_l5
      by_cases d : gI S1 7 1 ≤ 0
      · rw [if_pos d]
      · rw [if_neg d, if_pos c0]
    rw [this, mb_bd]
    unfold spFallen ixN
    rw [if_pos c0]
  · obtain ⟨n, hn, rfl⟩ := nI_of c0
    have key := wh_ix (f := un2 (Log_unlawful_l5 S1 (nI n))) (s := ((0 : Int32), (0 : Int32))) lg.length (fun k q => q.2 = nI k ∧ (flTo T on lg k).length ≤ n ∧ q.1 = nI (flTo T on lg k).length) (fun r => r = spFallen T on lg (nI n)) ⟨rfl, Nat.zero_le _, rfl⟩ ?_ ?_
    · obtain ⟨r, h1, h2⟩ := key
      rw [h1, h2, mb_bd]
    · intro k q hk hI
      obtain ⟨x3, x4⟩ := q
      obtain ⟨e1, hle, e2⟩ := hI
      dsimp only at e1 hle e2
      subst e1 e2
      have hg := get_some hk
      have hlt := (hL.2.2 k _ hg).2
      have hfk := fl_len T on lg k
      have ek : flTo T on lg (k + 1) = cond (isL T on (keS T on) (lg.getD k 0)) (flTo T on lg k) (flTo T on lg k ++ [k]) := rfl
      have head : Log_unlawful_l5 S1 (nI n) (nI (flTo T on lg k).length) (nI k) = (if b2i (isL T on (keS T on) (lg.getD k 0)) = 0 then (if nI (flTo T on lg k).length = nI n then some (.inr (nI k)) else some (.inl (nI ((flTo T on lg k).length + 1), nI (k + 1)))) else some (.inl (nI (flTo T on lg k).length, nI (k + 1)))) := by
        unfold Log_unlawful_l5 Log_unlawful_j42_l5
        rw [hL.2.1, if_neg (by rw [mb_le (by omega) (by omega)]; omega), if_neg c0, c_logIn hL hg, mb_bd, c_isLawful hi hf hlt, mb_bd, mb_nm, mb_nm, mb_nm, nI_1, nI_1]
      show (∃ t, Log_unlawful_l5 S1 (nI n) (nI (flTo T on lg k).length) (nI k) = some (.inl t) ∧ _) ∨ (∃ r, Log_unlawful_l5 S1 (nI n) (nI (flTo T on lg k).length) (nI k) = some (.inr r) ∧ _)
      rw [head]
      cases hc : isL T on (keS T on) (lg.getD k 0) with
      | true =>
        rw [hc] at ek
        left
        rw [if_neg (by decide)]
        exact ⟨_, rfl, rfl, by rw [ek]; exact hle, by rw [ek]; rfl⟩
      | false =>
        rw [hc] at ek
        have ek' : flTo T on lg (k + 1) = flTo T on lg k ++ [k] := ek
        have hlen' : (flTo T on lg (k + 1)).length = (flTo T on lg k).length + 1 := by rw [ek', List.length_append]; rfl
        rw [if_pos (by rfl)]
        by_cases cz : (flTo T on lg k).length = n
        · right
          rw [if_pos (by rw [cz])]
          refine ⟨_, rfl, ?_⟩
          have hx : (flTo T on lg (k + 1))[n]? = some k := by
            rw [ek', List.getElem?_append_right (by omega), cz, Nat.sub_self]
            rfl
          have hx2 := fl_more T on lg hx lg.length (by omega)
          have hlt := (List.getElem?_eq_some_iff.mp hx2).1
          unfold spFallen ixN
          rw [if_neg (nI_pos (by omega)), if_neg (by rw [mb_le (by omega) (by omega)]; omega), mb_cl (by omega)]
          dsimp only
          rw [List.getD_eq_getElem?_getD, hx2]
          rfl
        · left
          rw [if_neg (by rw [mb_eq (by omega) (by omega)]; exact cz)]
          exact ⟨_, rfl, rfl, by omega, by rw [hlen']⟩
    · intro q hI
      obtain ⟨x3, x4⟩ := q
      obtain ⟨e1, hle, e2⟩ := hI
      dsimp only at e1 hle e2
      subst e1 e2
      refine ⟨-1, ?_, ?_⟩
      · show Log_unlawful_l5 S1 _ _ (nI lg.length) = _
        unfold Log_unlawful_l5 Log_unlawful_j48_l5
        rw [hL.2.1, if_pos (by rw [mb_le (by omega) (by omega)]; omega)]
      · unfold spFallen ixN
        rw [if_neg (nI_pos (by omega)), if_pos (by rw [mb_le (by omega) (by omega)]; exact hle)]
/-! bins -/
theorem c_refreshBins (h : cInv T on lg tn tb pl S) : ∃ S', f_Chart_refreshBins S = some S' ∧ cInv T on lg tn tb pl S' ∧ ¬ gI S' 4 16 = 0 ∧ ¬ gI S' 4 14 = 0 ∧ Ph S + kMark S ≤ Ph S' := by
  obtain ⟨S1, h1, hi, hf, hp⟩ := c_refresh h
  unfold f_Chart_refreshBins Chart_refreshBins_j21
  rw [h1, mb_bd]
  by_cases c : gI S1 4 14 = 0
  · rw [if_pos c]
    obtain ⟨hw, hT, hK, hN, hM, hF, hS, hU, hL, hX, hY, hZ, hC⟩ := id hi
    have h13 := (hF.2.2 hf).1
    obtain ⟨hge, hmk, hst⟩ := hM.1 h13
    have l5 := hN.1
    unfold lnS at l5
    rw [c] at hmk
    obtain ⟨S2, h2, a2, v2⟩ := c_mark (s := 2) hw hK (by decide) hge (by omega) _ hmk
    rw [show f_Chart_mark S1 2 = some S2 from h2, mb_bd, mb_nm]
    have a3 : agC [(4, 14)] [] [] S2 (pI S2 4 14 1) := agC.pI S2 4 14 _ (by decide)
    have a : agC [(4, 14)] mkA [] S1 (pI S2 4 14 1) := (a2.wk (by decide) (by decide) (by decide)).tr (a3.wk (by decide) (by decide) (by decide))
    have e14 : ¬ gI (pI S2 4 14 1) 4 14 = 0 := by rw [mb_II, if_pos ⟨rfl, rfl⟩]; decide
    have e13 : ¬ gI (pI S2 4 14 1) 4 13 = 0 := by rw [a.1 4 13 (by decide)]; exact h13
    refine ⟨_, rfl, ⟨hw, hT.ag a (by decide), hK.ag a (by decide) (by decide), hN.ag a, ⟨fun _ => ⟨?_, ?_, ?_⟩, fun _ => e13⟩, hF.ag a (by decide) (by decide), hS.ag a (by decide) (by decide), hU.ag a (by decide) (by decide), hL.ag a (by decide) (by decide), hX.ag a (by decide) (by decide), hY.ag a (by decide) (by decide), hZ.ag a (by decide) (by decide), hC.ag a (by decide) (by decide)⟩, ?_, e14, ?_⟩
    · rw [a.2.2.2]; exact hge
    · intro i hi
      rw [a3.2.1 4 5 (by decide), v2 i hi]
      congr 1
      rw [decide_eq_false e14]
      show mkN T false i ||| bN T 2 i <<< (8 * 2) = mkN T true i
      unfold mkN
      show (_ ||| 0) ||| _ = _ ||| _
      rw [Nat.or_zero]
      rfl
    · rw [a.2.1 4 2 (by decide)]; exact hst
    · rw [a.1 4 16 (by decide)]; exact hf
    · unfold Ph at hp ⊢
      rw [a.2.2.2]
      exact hp
  · rw [if_neg c]
    exact ⟨S1, rfl, hi, hf, c, hp⟩
theorem c_binsOf (h : cInv T on lg tn tb pl S) (h14 : ¬ gI S 4 14 = 0) {i : Nat} (hi : i < tIn T) : f_Chart_binsOf S (nI i) = some (nI (bN T 2 i)) := by
  obtain ⟨hw, -, -, hN, hM, -⟩ := h
  unfold f_Chart_binsOf
  rw [c_marksOf hw hN (hM.2 h14) hM hi, mb_bd, decide_eq_false h14]
  show some ((nI (mkN T true i) >>> ((16 : Int32) &&& 31)) &&& 255) = _
  rw [mk_2 hw]
theorem cc_hits (h : cInv T on lg tn tb pl S) (x : Int32) : ∃ S', f_Lots_hits S x = some (spHits T lg x, S') ∧ cInv T on lg tn tb pl S' ∧ Ph S + kBin S x ≤ Ph S' := by
  have hw := h.1
  have n8 := hw.2.2.2.1 2 (by decide)
  unfold f_Lots_hits kBin
  rw [show f_Book_has S 2 x = _ from c_has h.2.2.1.1 (s := 2) (by decide) x, mb_bd]
  unfold ixB spHits
  cases hx : ixN x (tNt T 2) with
  | none =>
    dsimp only
    rw [if_pos rfl, if_pos rfl]
    exact ⟨S, rfl, h, Nat.le_refl _⟩
  | some b =>
    obtain ⟨hb, rfl, -, -⟩ := ixN_s (by omega) hx
    dsimp only
    rw [if_neg (by decide), if_neg (by decide)]
    obtain ⟨S1, h1, hi, hf, h14, hp⟩ := c_refreshBins h
    rw [h1, mb_bd]
    have hL := hi.2.2.2.2.2.2.2.2.1
    have hl1 := hL.1
    unfold f_Log_meeting
    have key := wh_ix (f := un2 (Log_meeting_l5 S1 (nI b))) (s := ((0 : Int32), (0 : Int32))) lg.length (fun k q => q.2 = nI k ∧ q.1 = nI (cN (fun i => (bN T 2 i).testBit b) (lg.take k))) (fun r => r = nI (hiN T lg b)) ⟨rfl, by rw [List.take_zero]; rfl⟩ ?_ ?_
    · obtain ⟨r, g1, g2⟩ := key
      rw [g1, g2, mb_bd, mb_bd]
      exact ⟨S1, rfl, hi, hp⟩
    · intro k q hk hI
      obtain ⟨x3, x4⟩ := q
      obtain ⟨e1, e2⟩ := hI
      dsimp only at e1 e2
      subst e1 e2
      have hg := get_some hk
      have hlt := (hL.2.2 k _ hg).2
      left
      refine ⟨(nI (cN (fun i => (bN T 2 i).testBit b) (lg.take (k + 1))), nI (k + 1)), ?_, rfl, rfl⟩
      show Log_meeting_l5 S1 (nI b) _ (nI k) = _
      unfold Log_meeting_l5
      rw [hL.2.1, if_neg (by rw [mb_le (by omega) (by omega)]; omega), c_logIn hL hg, mb_bd, c_binsOf hi h14 hlt, mb_bd, bit_V (bN_lt hw (by decide) _) (by omega), mb_nm, mb_nm, nI_add, nI_1, cN_take _ hg]
    · intro q hI
      obtain ⟨x3, x4⟩ := q
      obtain ⟨e1, e2⟩ := hI
      dsimp only at e1 e2
      subst e1 e2
      refine ⟨nI (hiN T lg b), ?_, rfl⟩
      show Log_meeting_l5 S1 (nI b) _ (nI lg.length) = _
      unfold Log_meeting_l5
      rw [hL.2.1, if_pos (by rw [mb_le (by omega) (by omega)]; omega), List.take_length]
      rfl
