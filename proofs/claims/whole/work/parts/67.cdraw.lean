/-! the class: sums of shares, share, sum, pick, draw -/
theorem take_min (l : List Nat) (n : Nat) : l.take (min l.length n) = l.take n := by
  rcases Nat.le_total l.length n with h | h
  · rw [Nat.min_eq_left h, List.take_length, List.take_of_length_le h]
  · rw [Nat.min_eq_right h]
theorem sub_pos {a b : Nat} (ha : a < 2 ^ 30) (hb : b < 2 ^ 30) : (0 ≤ nI a - nI b) = (b ≤ a) := by
  rw [Int32.le_iff_toInt_le, pk_sub_toInt ha hb]
  show ((0 : Int) ≤ (a : Int) - b) = _
  exact propext ⟨fun h => by omega, fun h => by omega⟩
variable {T : Tx} {on tn : Nat} {lg : List Nat} {tb : Nat → Int32} {pl : Int32} {S S' : St}
theorem c_shareOf (h : cInv T on lg tn tb pl S) (hf : ¬ gI S 4 16 = 0) (h15 : ¬ gI S 4 15 = 0) {k x : Nat} (hx : (lwS T on)[k]? = some x) : f_Chart_shareOf S (nI k) = some (nI (shN T x)) := by
  obtain ⟨-, hge, hv⟩ := h.2.2.2.2.2.2.1 h15
  have hlt := lwS_lt hx
  have n1 := h.1.2.2.1
  have hl6 := h.2.2.2.1.2.2.1
  unfold lnS at hl6
  unfold f_Chart_shareOf Chart_shareOf_j29
  rw [c_inputOf h hf hx, mb_bd, if_neg (nI_pos (by omega)), if_neg (by rw [mb_le (by omega) (by omega)]; omega), mb_in (by omega) (by omega), mb_gd, mb_cl (by omega), hv x hlt]
def asI : List (Nat × Nat) := [(4, 11)]
def asA : List (Nat × Nat) := [(4, 4)]
theorem cInv.asum (h : cInv T on lg tn tb pl S) (h17 : gI S 4 17 = 0) (a : agC asI asA [] S S') : cInv T on lg tn tb pl S' := by
  obtain ⟨hw, hT, hK, hN, hM, hF, hS, hU, hL, hX, hY, hZ, hC⟩ := h
  refine ⟨hw, hT.ag a (by decide), hK.ag a (by decide) (by decide), hN.ag a, hM.ag a (by decide) (by decide), hF.ag a (by decide) (by decide), hS.ag a (by decide) (by decide), ?_, hL.ag a (by decide) (by decide), hX.ag a (by decide) (by decide), hY.ag a (by decide) (by decide), hZ.ag a (by decide) (by decide), hC.ag a (by decide) (by decide)⟩
  intro z
  rw [a.1 4 17 (by decide)] at z
  exact absurd h17 z
theorem c_addShares (h : cInv T on lg tn tb pl S) (hf : ¬ gI S 4 16 = 0) (h15 : ¬ gI S 4 15 = 0) (h17 : gI S 4 17 = 0) : ∃ S', f_Chart_addShares S = some S' ∧ agC asI asA [] S S' ∧ gI S' 4 11 = nI (shSum T (lwS T on)) ∧ ∀ b, 64 * b < (lwS T on).length → gA S' 4 4 b = nI (shSum T ((lwS T on).take (64 * (b + 1)))) := by
  have hw := h.1
  have hlen := lwS_len hw on
  unfold f_Chart_addShares
  rw [mb_nm]
  have key := wh_ix (f := un2 Chart_addShares_l7) (s := (pI S 4 11 0, (0 : Int32))) (lwS T on).length (fun k q => q.2 = nI k ∧ agC asI asA [] S q.1 ∧ gI q.1 4 11 = nI (shSum T ((lwS T on).take k)) ∧ ∀ b, 64 * b < k → gA q.1 4 4 b = nI (shSum T ((lwS T on).take (min k (64 * (b + 1)))))) (fun S' => agC asI asA [] S S' ∧ gI S' 4 11 = nI (shSum T (lwS T on)) ∧ ∀ b, 64 * b < (lwS T on).length → gA S' 4 4 b = nI (shSum T ((lwS T on).take (64 * (b + 1))))) ⟨rfl, agC.pI S 4 11 _ (by decide), ?_, fun b hb => absurd hb (Nat.not_lt_zero _)⟩ ?_ ?_
  · obtain ⟨S', h1, h2⟩ := key
    rw [h1, mb_bd]
    exact ⟨S', rfl, h2⟩
  · show gI (pI S 4 11 0) 4 11 = _
    rw [mb_II, if_pos ⟨rfl, rfl⟩, List.take_zero]
    rfl
  · intro k q hk hI
    obtain ⟨S1, x⟩ := q
    obtain ⟨e1, a1, t1, v1⟩ := hI
    dsimp only at e1 a1 t1 v1
    subst e1
    have hg := get_some hk
    have h1 := h.asum h17 a1
    have hsh := c_shareOf h1 (by rw [a1.1 4 16 (by decide)]; exact hf) (by rw [a1.1 4 15 (by decide)]; exact h15) hg
    have hq : k / 64 < 512 := by omega
    left
    refine ⟨(pA (pI S1 4 11 (nI (shSum T ((lwS T on).take (k + 1))))) 4 4 (k / 64) (nI (shSum T ((lwS T on).take (k + 1)))), nI (k + 1)), ?_, rfl, a1.tr ((agC.pI S1 4 11 _ (by decide)).tr (agC.pA _ 4 4 _ _ (by decide))), ?_, ?_⟩
    · show Chart_addShares_l7 S1 (nI k) = _
      unfold Chart_addShares_l7 Chart_addShares_j52_l7
      rw [a1.1 4 9 (by decide), (h.2.2.2.2.2.1.2.2 hf).2.1, if_neg (by rw [mb_le (by omega) (by omega)]; omega), hsh, mb_bd, mb_nm, t1, nI_add, ← shSum_take T _ hg, l64, nz_nI (by omega) (by omega), mb_gd, pk_div (by omega) (by omega) (by omega), show (512 : Int32) = nI 512 from rfl, if_neg (by rw [mb_le (by omega) (by omega)]; omega), mb_gd, mb_in hq (by decide), mb_gd, mb_nm, mb_nm, mb_cl (by omega), mb_II, if_pos ⟨rfl, rfl⟩, nI_1]
    · show gI (pA (pI S1 4 11 _) 4 4 _ _) 4 11 = _
      rw [mb_IA, mb_II, if_pos ⟨rfl, rfl⟩]
    · intro b hb
      show gA (pA (pI S1 4 11 _) 4 4 (k / 64) _) 4 4 b = _
      rw [mb_AA]
      by_cases e : b = k / 64
      · rw [if_pos ⟨rfl, rfl, e⟩, show min (k + 1) (64 * (b + 1)) = k + 1 by omega]
      · rw [if_neg (fun z => e z.2.2), mb_AI, v1 b (by omega), show min k (64 * (b + 1)) = 64 * (b + 1) by omega, show min (k + 1) (64 * (b + 1)) = 64 * (b + 1) by omega]
  · intro q hI
    obtain ⟨S1, x⟩ := q
    obtain ⟨e1, a1, t1, v1⟩ := hI
    dsimp only at e1 a1 t1 v1
    subst e1
    rw [List.take_length] at t1
    refine ⟨S1, ?_, a1, t1, fun b hb => ?_⟩
    · show Chart_addShares_l7 S1 (nI (lwS T on).length) = _
      unfold Chart_addShares_l7
      rw [a1.1 4 9 (by decide), (h.2.2.2.2.2.1.2.2 hf).2.1, if_pos (by rw [mb_le (by omega) (by omega)]; omega)]
    · rw [v1 b hb, take_min]
theorem c_refreshShares (h : cInv T on lg tn tb pl S) : ∃ S', f_Chart_refreshShares S = some S' ∧ cInv T on lg tn tb pl S' ∧ ¬ gI S' 4 17 = 0 ∧ Ph S + kSh S ≤ Ph S' := by
  obtain ⟨S1, h1, hi, hf, hp⟩ := c_refresh h
  have hw := h.1
  -- the sums
  have sums : ∀ S2, cInv T on lg tn tb pl S2 → ¬ gI S2 4 16 = 0 → ¬ gI S2 4 15 = 0 → ∃ S', Chart_refreshShares_j20 S2 = some S' ∧ cInv T on lg tn tb pl S' ∧ ¬ gI S' 4 17 = 0 ∧ gN S' = gN S2 := by
    intro S2 hi2 hf2 h15
    unfold Chart_refreshShares_j20 Chart_refreshShares_j36
    by_cases c : gI S2 4 17 = 0
    · rw [if_pos c]
      obtain ⟨S3, h3, a3, t3, v3⟩ := c_addShares hi2 hf2 h15 c
      rw [h3, mb_bd, mb_nm]
      have hi3 := hi2.asum c a3
      have a4 : agC [(4, 17)] [] [] S3 (pI S3 4 17 1) := agC.pI S3 4 17 _ (by decide)
      obtain ⟨-, hT, hK, hN, hM, hF, hS, hU, hL, hX, hY, hZ, hC⟩ := hi3
      refine ⟨_, rfl, ⟨hw, hT.ag a4 (by decide), hK.ag a4 (by decide) (by decide), hN.ag a4, hM.ag a4 (by decide) (by decide), hF.ag a4 (by decide) (by decide), hS.ag a4 (by decide) (by decide), fun _ => ⟨?_, ?_, ?_, ?_⟩, hL.ag a4 (by decide) (by decide), hX.ag a4 (by decide) (by decide), hY.ag a4 (by decide) (by decide), hZ.ag a4 (by decide) (by decide), hC.ag a4 (by decide) (by decide)⟩, ?_, ?_⟩
      · rw [a4.1 4 16 (by decide), a3.1 4 16 (by decide)]; exact hf2
      · rw [a4.1 4 15 (by decide), a3.1 4 15 (by decide)]; exact h15
      · rw [a4.1 4 11 (by decide)]; exact t3
      · rw [a4.2.1 4 4 (by decide)]; exact v3
      · rw [mb_II, if_pos ⟨rfl, rfl⟩]; decide
      · rw [a4.2.2.2, a3.2.2.2]
    · rw [if_neg c]
      exact ⟨S2, rfl, hi2, c, rfl⟩
  unfold f_Chart_refreshShares kSh
  rw [h1, mb_bd]
  dsimp only
  by_cases c : gI S1 4 15 = 0
  · rw [if_pos c, if_pos c]
    obtain ⟨-, hT, hK, hN, hM, hF, hS, hU, hL, hX, hY, hZ, hC⟩ := id hi
    have h13 := (hF.2.2 hf).1
    have hge := (hM.1 h13).1
    obtain ⟨l5, e7, l6, h65⟩ := id hN
    unfold lnS at l5 l6
    have h17 : gI S1 4 17 = 0 := by
      by_cases z : gI S1 4 17 = 0
      · exact z
      · exact absurd c (hU z).2.1
    unfold f_Chart_tellShares kTell
    -- told over rows of room enough
    have tail : ∀ S2, agD [] [(4, 6)] [] S1 S2 → CN S2 → gN S2 4 5 = gN S1 4 5 → tIn T ≤ gN S2 4 6 → ∃ S', (bd (Chart_tellShares_j24 S2) fun S_6 => nm (pI S_6 4 15 (1 : Int32)) fun S_8 => Chart_refreshShares_j20 S_8) = some S' ∧ cInv T on lg tn tb pl S' ∧ ¬ gI S' 4 17 = 0 ∧ gN S' = gN S2 := by
      intro S2 a2 hN2 e5 hge2
      have l62 := hN2.2.2.1
      unfold lnS at l62
      have hK2 : CK T S2 := hK.agD a2 (by decide) (by decide)
      obtain ⟨S3, h3, a3, v3⟩ := c_tell1 hw hK2 hge2 (by omega)
      rw [h3, mb_bd, mb_nm]
      have a4 : agC [(4, 15)] [] [] S3 (pI S3 4 15 1) := agC.pI S3 4 15 _ (by decide)
      have aD : agD [(4, 15)] tsA [] S1 (pI S3 4 15 1) := (a2.wk (by decide) (by decide) (by decide)).tr ((a3.D.wk (by decide) (by decide) (by decide)).tr (a4.D.wk (by decide) (by decide) (by decide)))
      have eN : gN (pI S3 4 15 1) = gN S2 := by rw [a4.2.2.2, a3.2.2.2]
      have e15 : ¬ gI (pI S3 4 15 1) 4 15 = 0 := by rw [mb_II, if_pos ⟨rfl, rfl⟩]; decide
      have e16 : ¬ gI (pI S3 4 15 1) 4 16 = 0 := by rw [aD.1 4 16 (by decide)]; exact hf
      have hi4 : cInv T on lg tn tb pl (pI S3 4 15 1) := by
        refine ⟨hw, ?_, hK.agD aD (by decide) (by decide), ?_, ?_, ?_, ?_, ?_, ?_, ?_, ?_, ?_, ?_⟩
        · unfold CT
          rw [aD.1 0 6 (by decide), aD.1 0 7 (by decide), aD.2.1 0 0 (by decide)]
          exact hT
        · unfold CN; rw [eN]; exact hN2
        · unfold CM
          rw [aD.1 4 13 (by decide), aD.1 4 14 (by decide), aD.2.1 4 5 (by decide), aD.2.1 4 2 (by decide), eN, e5]
          exact hM
        · unfold CF
          rw [aD.1 4 12 (by decide), aD.1 4 16 (by decide), aD.1 4 13 (by decide), aD.1 4 9 (by decide), aD.1 4 10 (by decide), aD.2.1 4 7 (by decide)]
          exact hF
        · intro _
          rw [eN, aD.1 4 13 (by decide), a4.2.1 4 6 (by decide)]
          exact ⟨h13, hge2, v3⟩
        · intro z
          rw [aD.1 4 17 (by decide)] at z
          exact absurd h17 z
        · unfold CL
          rw [aD.1 7 1 (by decide), aD.2.1 7 0 (by decide)]
          exact hL
        · unfold CX SR
          rw [aD.1 8 8 (by decide), aD.1 8 6 (by decide), aD.2.1 8 0 (by decide), aD.2.1 8 1 (by decide), aD.2.1 8 2 (by decide)]
          exact hX
        · unfold CY
          rw [aD.1 8 9 (by decide), aD.2.1 8 4 (by decide)]
          exact hY
        · unfold CZ
          rw [aD.1 8 10 (by decide), aD.1 8 8 (by decide), aD.1 8 7 (by decide), aD.2.1 8 5 (by decide)]
          exact hZ
        · unfold CC
          rw [aD.1 9 6 (by decide), aD.1 9 5 (by decide), aD.2.2 9 3 (by decide), aD.2.2 9 4 (by decide)]
          exact hC
      obtain ⟨S5, h5, hi5, h175, eN5⟩ := sums _ hi4 e16 e15
      exact ⟨S5, h5, hi5, h175, by rw [eN5, eN]⟩
    by_cases d : nI (gN S1 4 5) ≤ nI (gN S1 4 6)
    · rw [if_pos d, if_pos d]
      rw [mb_le (by omega) (by omega)] at d
      obtain ⟨S', g1, g2, g3, g4⟩ := tail S1 (agD.rf S1) hN rfl (by omega)
      refine ⟨S', g1, g2, g3, ?_⟩
      unfold Ph at hp ⊢
      rw [g4]
      omega
    · rw [if_neg d, if_neg d]
      rw [mb_le (by omega) (by omega)] at d
      rw [okn_of (by omega), mb_gd, mb_nm, mb_cl (by omega)]
      have b1 : gN (pZ S1 4 6 (gN S1 4 5)) 4 5 = gN S1 4 5 := by rw [mb_NZ, if_neg (by decide)]
      have b2 : gN (pZ S1 4 6 (gN S1 4 5)) 4 7 = gN S1 4 7 := by rw [mb_NZ, if_neg (by decide)]
      have b3 : gN (pZ S1 4 6 (gN S1 4 5)) 4 6 = gN S1 4 5 := by rw [mb_NZ, if_pos ⟨rfl, rfl⟩]
      obtain ⟨S', g1, g2, g3, g4⟩ := tail (pZ S1 4 6 (gN S1 4 5)) (agD.pZ S1 4 6 _ (by decide)) (by
        unfold CN
        rw [b1, b2, b3]
        exact ⟨hN.1, e7, hN.1, Nat.le_refl _⟩) b1 (by rw [b3]; exact hge)
      refine ⟨S', g1, g2, g3, ?_⟩
      unfold Ph at hp ⊢
      rw [g4, b1, b3]
      omega
  · rw [if_neg c, if_neg c]
    obtain ⟨S', g1, g2, g3, g4⟩ := sums S1 hi hf c
    refine ⟨S', g1, g2, g3, ?_⟩
    unfold Ph at hp ⊢
    rw [g4]
    omega
theorem cc_sum (h : cInv T on lg tn tb pl S) : ∃ S', f_Lots_sum S = some (nI (shSum T (lwS T on)), S') ∧ cInv T on lg tn tb pl S' ∧ Ph S + kSh S ≤ Ph S' := by
  obtain ⟨S1, h1, hi, hf, hp⟩ := c_refreshShares h
  unfold f_Lots_sum
  rw [h1, mb_bd, (hi.2.2.2.2.2.2.2.1 hf).2.2.1]
  exact ⟨S1, rfl, hi, hp⟩
theorem cc_share (h : cInv T on lg tn tb pl S) (x : Int32) : ∃ S', f_Lots_share S x = some (spShare T on x, S') ∧ cInv T on lg tn tb pl S' ∧ Ph S + kSh S ≤ Ph S' := by
  obtain ⟨S1, h1, hi, hf, hp⟩ := c_refreshShares h
  obtain ⟨f16, f15, -, -⟩ := hi.2.2.2.2.2.2.2.1 hf
  have hlen := lwS_len h.1 on
  refine ⟨S1, ?_, hi, hp⟩
  unfold f_Lots_share Lots_share_j22 Lots_share_j34
  rw [h1, mb_bd, (hi.2.2.2.2.2.1.2.2 f16).2.1]
  unfold spShare
  cases hx : ixN x (lwS T on).length with
  | none =>
    rcases ixN_n hx with c | ⟨c, d⟩
    · rw [if_pos c]
    · rw [if_neg c, if_neg (fun z => absurd (Int32.lt_of_lt_of_le z d) Int32.lt_irrefl)]
  | some k =>
    obtain ⟨hk, rfl, c, d⟩ := ixN_s (by omega) hx
    rw [if_neg c, if_pos (by rw [mb_lt (by omega) (by omega)]; exact hk), c_shareOf hi f16 f15 (get_some hk), mb_bd]
