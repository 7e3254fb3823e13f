/-! the class: the table of bins, meets, cross, quarrel, alone -/
variable {T : Tx} {on tn : Nat} {lg : List Nat} {tb : Nat → Int32} {pl : Int32} {S S' : St}
theorem cInv.b8 (h : cInv T on lg tn tb pl S) (h7 : gI S 8 7 = 0) (a : agC [(8, 5)] [(8, 0), (8, 1)] [] S S') : cInv T on lg tn tb pl S' := by
  obtain ⟨hw, hT, hK, hN, hM, hF, hS, hU, hL, hX, hY, hZ, hC⟩ := h
  refine ⟨hw, hT.ag a (by decide), hK.ag a (by decide) (by decide), hN.ag a, hM.ag a (by decide) (by decide), hF.ag a (by decide) (by decide), hS.ag a (by decide) (by decide), hU.ag a (by decide) (by decide), hL.ag a (by decide) (by decide), ?_, hY.ag a (by decide) (by decide), hZ.ag a (by decide) (by decide), hC.ag a (by decide) (by decide)⟩
  intro z
  rw [a.1 8 7 (by decide)] at z
  exact absurd h7 z
theorem sets_I : ∀ n, n ≤ 8 → (if ((1 : Int32) <<< (nI n &&& 31)) < (256 : Int32) then ((1 : Int32) <<< (nI n &&& 31)) else (256 : Int32)) = nI (2 ^ n) := by decide
theorem nI_255 {m : Nat} (h : m < 256) : nI m &&& (255 : Int32) = nI m := by
  rw [show (255 : Int32) = nI 255 from rfl, nI_and, lt_and255 h]
theorem c_binsRefresh (h : cInv T on lg tn tb pl S) (hf : ¬ gI S 4 16 = 0) (h14 : ¬ gI S 4 14 = 0) : ∃ S', f_Bins_refresh S = some S' ∧ cInv T on lg tn tb pl S' ∧ agC [(8, 5), (8, 7)] [(8, 0), (8, 1)] [] S S' ∧ ¬ gI S' 8 7 = 0 := by
  have hw := h.1
  have n8 := hw.2.2.2.1 2 (by decide)
  have hlen := lwS_len hw on
  unfold f_Bins_refresh
  by_cases c : gI S 8 7 = 0
  · rw [if_pos c, show f_Book_toldOf 5 S 2 = _ from c_toldOf h.2.2.1.1 (s := 2) (by decide), mb_bd, mb_nm, sets_I _ n8]
    have a0 : agC [(8, 5)] [(8, 0), (8, 1)] [] S (pI S 8 5 (nI (2 ^ tNt T 2))) := agC.pI S 8 5 _ (by decide)
    obtain ⟨S1, h1, a1, v1⟩ := c_fill (o := 8) (k := 0) (n := 256) (S := pI S 8 5 (nI (2 ^ tNt T 2))) 0 (fun _ _ => rfl) (by decide)
    obtain ⟨S2, h2, a2, v2⟩ := c_fill (o := 8) (k := 1) (n := 256) (S := S1) (-1) (fun _ _ => rfl) (by decide)
    rw [h1, mb_bd, h2, mb_bd]
    have e5 : gI S2 8 5 = nI (2 ^ tNt T 2) := by rw [a2.1 8 5 (by decide), a1.1 8 5 (by decide), mb_II, if_pos ⟨rfl, rfl⟩]
    have a02 : agC [(8, 5)] [(8, 0), (8, 1)] [] S S2 := (a0.tr (a1.wk (by decide) (by decide) (by decide))).tr (a2.wk (by decide) (by decide) (by decide))
    have key := wh_ix (f := un2 Bins_refresh_l46) (s := (S2, (0 : Int32))) (lwS T on).length (fun k q => q.2 = nI k ∧ agC [] [(8, 0), (8, 1)] [] S2 q.1 ∧ ∀ set, set < 256 → gA q.1 8 0 set = nI (cN (fun x => Nat.beq (bN T 2 x) set) ((lwS T on).take k)) ∧ gA q.1 8 1 set = oI (fiK T on set k)) (fun S' => agC [] [(8, 0), (8, 1)] [] S2 S' ∧ ∀ set, set < 256 → gA S' 8 0 set = nI (cN (fun x => Nat.beq (bN T 2 x) set) (lwS T on)) ∧ gA S' 8 1 set = oI (fiK T on set (lwS T on).length)) ⟨rfl, agC.rf S2, fun set hs => ⟨?_, v2 set hs⟩⟩ ?_ ?_
    · obtain ⟨S3, h3, a3, v3⟩ := key
      rw [h3, mb_bd]
      obtain ⟨S4, h4, a4, v4⟩ := c_supers (o := 8) (k := 0) (S := S3) (fun _ _ => rfl) (fun x => bN_lt hw (show 2 < 5 by decide) x) (fun j hj => (v3 j hj).1)
      rw [h4, mb_bd, mb_nm]
      have a4' : agC [(8, 5)] [(8, 0), (8, 1)] [] S S4 := (a02.tr (a3.wk (by decide) (by decide) (by decide))).tr (a4.wk (by decide) (by decide) (by decide))
      have hi4 := h.b8 c a4'
      have a5 : agC [(8, 7)] [] [] S4 (pI S4 8 7 1) := agC.pI S4 8 7 _ (by decide)
      obtain ⟨-, hT, hK, hN, hM, hF, hS, hU, hL, hX, hY, hZ, hC⟩ := hi4
      refine ⟨_, rfl, ⟨hw, hT.ag a5 (by decide), hK.ag a5 (by decide) (by decide), hN.ag a5, hM.ag a5 (by decide) (by decide), hF.ag a5 (by decide) (by decide), hS.ag a5 (by decide) (by decide), hU.ag a5 (by decide) (by decide), hL.ag a5 (by decide) (by decide), fun _ => ⟨?_, fun set hs => ⟨?_, ?_⟩⟩, hY.ag a5 (by decide) (by decide), ?_, hC.ag a5 (by decide) (by decide)⟩, (a4'.wk (by decide) (by decide) (by decide)).tr (a5.wk (by decide) (by decide) (by decide)), ?_⟩
      · rw [a5.1 8 5 (by decide), a4.1 8 5 (by decide), a3.1 8 5 (by decide)]; exact e5
      · rw [a5.2.1 8 0 (by decide)]; exact v4 set hs
      · rw [a5.2.1 8 1 (by decide), a4.2.1 8 1 (by decide)]; exact (v3 set hs).2
      · intro z
        rw [a5.1 8 9 (by decide), a4'.1 8 9 (by decide)] at z
        exact absurd c (h.2.2.2.2.2.2.2.2.2.2.2.1 z).1
      · rw [mb_II, if_pos ⟨rfl, rfl⟩]; decide
    · show gA S2 8 0 set = _
      rw [a2.2.1 8 0 (by decide), v1 set hs, List.take_zero]
      rfl
    · intro k q hk hI
      obtain ⟨S3, x⟩ := q
      obtain ⟨e1, a3, v3⟩ := hI
      dsimp only at e1 a3 v3
      subst e1
      have a03 : agC [(8, 5)] [(8, 0), (8, 1)] [] S S3 := a02.tr (a3.wk (by decide) (by decide) (by decide))
      have hi3 := h.b8 c a03
      have hg := get_some hk
      have hlt := lwS_lt hg
      have hb : bq T on k < 256 := bq_lt hw on k
      have hin := c_inputOf hi3 (by rw [a03.1 4 16 (by decide)]; exact hf) hg
      have hbi := c_binsOf hi3 (by rw [a03.1 4 14 (by decide)]; exact h14) hlt
      have hbi : f_Chart_binsOf S3 (nI ((lwS T on).getD k 0)) = some (nI (bq T on k)) := hbi
      have e9 : gI S3 4 9 = nI (lwS T on).length := by rw [a03.1 4 9 (by decide)]; exact (h.2.2.2.2.2.1.2.2 hf).2.1
      obtain ⟨S4, e4⟩ : ∃ S4, S4 = pA S3 8 0 (bq T on k) (nI (cN (fun x => Nat.beq (bN T 2 x) (bq T on k)) ((lwS T on).take (k + 1)))) := ⟨_, rfl⟩
      have a4 : agC [] [(8, 0), (8, 1)] [] S3 S4 := by rw [e4]; exact agC.pA S3 8 0 _ _ (by decide)
      have hcn : ∀ set, cN (fun x => Nat.beq (bN T 2 x) set) ((lwS T on).take (k + 1)) = cN (fun x => Nat.beq (bN T 2 x) set) ((lwS T on).take k) + cond (Nat.beq (bq T on k) set) 1 0 := fun set => cN_take _ hg
      have hfi : ∀ set, fiK T on set (k + 1) = match fiK T on set k with | some j => some j | none => cond (Nat.beq (bq T on k) set) (some k) none := fun set => rfl
      have hne : ∀ set, ¬ set = bq T on k → Nat.beq (bq T on k) set = false := by
        intro set hs
        cases hb : Nat.beq (bq T on k) set with
        | false => rfl
        | true => exact absurd (Nat.eq_of_beq_eq_true hb).symm hs
      have hz0 : ∀ set, set < 256 → gA S4 8 0 set = nI (cN (fun x => Nat.beq (bN T 2 x) set) ((lwS T on).take (k + 1))) := by
        intro set hs
        rw [e4, mb_AA]
        by_cases e : set = bq T on k
        · rw [if_pos ⟨rfl, rfl, e⟩, e]
        · rw [if_neg (fun z => e z.2.2), (v3 set hs).1, hcn set, hne set e]
          rfl
      have hz1 : gA S4 8 1 = gA S3 8 1 := by
        funext j
        rw [e4, mb_AA, if_neg (fun z => by omega)]
      left
      have head : Bins_refresh_l46 S3 (nI k) = (if gA S4 8 1 (bq T on k) = -1 then some (.inl (pA S4 8 1 (bq T on k) (nI k), nI (k + 1))) else some (.inl (S4, nI (k + 1)))) := by
        unfold Bins_refresh_l46 Bins_refresh_j95_l46
        rw [e9, if_neg (by rw [mb_le (by omega) (by omega)]; omega), hin, mb_bd, hbi, mb_bd, mb_nm, nI_255 hb, mb_in hb (by decide), mb_gd, mb_gd, mb_nm, mb_gd, mb_gd, mb_nm, mb_nm, mb_nm, mb_cl (by omega), (v3 _ hb).1, nI_1, nI_1, show cN (fun x => Nat.beq (bN T 2 x) (bq T on k)) ((lwS T on).take k) + 1 = cN (fun x => Nat.beq (bN T 2 x) (bq T on k)) ((lwS T on).take (k + 1)) by rw [hcn, Nat.beq_refl]; rfl, ← e4]
      show ∃ t, Bins_refresh_l46 S3 (nI k) = some (.inl t) ∧ _
      rw [head]
      have hold := (v3 _ hb).2
      cases hx : fiK T on (bq T on k) k with
      | none =>
        rw [hx] at hold
        rw [if_pos (by rw [hz1]; exact hold)]
        refine ⟨_, rfl, rfl, (a3.tr a4).tr (agC.pA S4 8 1 _ _ (by decide)), fun set hs => ⟨?_, ?_⟩⟩
        · show gA (pA S4 8 1 _ _) 8 0 set = _
          rw [mb_AA, if_neg (fun z => by omega)]
          exact hz0 set hs
        · show gA (pA S4 8 1 _ _) 8 1 set = _
          rw [mb_AA]
          by_cases e : set = bq T on k
          · rw [if_pos ⟨rfl, rfl, e⟩, hfi, e, hx, Nat.beq_refl]
            rfl
          · rw [if_neg (fun z => e z.2.2), hz1, (v3 set hs).2, hfi, hne set e]
            cases fiK T on set k <;> rfl
      | some j =>
        have hjk : j < 2147483648 := by
          have : ∀ n j, fiK T on (bq T on k) n = some j → j < n := by
            intro n
            induction n with
            | zero => intro j hj; cases hj
            | succ n ih =>
              intro j hj
              have hj : (match fiK T on (bq T on k) n with | some j => some j | none => cond (Nat.beq (bq T on n) (bq T on k)) (some n) none) = some j := hj
              cases hy : fiK T on (bq T on k) n with
              | some m =>
                rw [hy] at hj
                have := ih m hy
                have e : m = j := Option.some.inj hj
                omega
              | none =>
                rw [hy] at hj
                cases hc : Nat.beq (bq T on n) (bq T on k) with
                | true =>
                  rw [hc] at hj
                  have e : n = j := Option.some.inj hj
                  omega
                | false =>
                  rw [hc] at hj
                  cases hj
          have := this k j hx
          omega
        rw [hx] at hold
        have hold : gA S3 8 1 (bq T on k) = nI j := hold
        rw [if_neg (by rw [hz1, hold]; exact nI_m1 hjk)]
        refine ⟨_, rfl, rfl, a3.tr a4, fun set hs => ⟨hz0 set hs, ?_⟩⟩
        show gA S4 8 1 set = _
        rw [hz1, (v3 set hs).2, hfi]
        by_cases e : set = bq T on k
        · rw [e, hx]
        · rw [hne set e]
          cases fiK T on set k <;> rfl
    · intro q hI
      obtain ⟨S3, x⟩ := q
      obtain ⟨e1, a3, v3⟩ := hI
      dsimp only at e1 a3 v3
      subst e1
      rw [List.take_length] at v3
      have a03 : agC [(8, 5)] [(8, 0), (8, 1)] [] S S3 := a02.tr (a3.wk (by decide) (by decide) (by decide))
      have e9 : gI S3 4 9 = nI (lwS T on).length := by rw [a03.1 4 9 (by decide)]; exact (h.2.2.2.2.2.1.2.2 hf).2.1
      refine ⟨S3, ?_, a3, v3⟩
      show Bins_refresh_l46 S3 (nI (lwS T on).length) = _
      unfold Bins_refresh_l46
      rw [e9, if_pos (by rw [mb_le (by omega) (by omega)]; omega)]
  · rw [if_neg c]
    exact ⟨S, rfl, h, agC.rf S, c⟩
theorem c_lotsBins (h : cInv T on lg tn tb pl S) : ∃ S', f_Lots_refreshBins S = some S' ∧ cInv T on lg tn tb pl S' ∧ ¬ gI S' 4 16 = 0 ∧ ¬ gI S' 4 14 = 0 ∧ ¬ gI S' 8 7 = 0 ∧ Ph S + kMark S ≤ Ph S' := by
  obtain ⟨S1, h1, hi, hf, h14, hp⟩ := c_refreshBins h
  obtain ⟨S2, h2, hi2, a2, h7⟩ := c_binsRefresh hi hf h14
  unfold f_Lots_refreshBins
  rw [h1, mb_bd, h2, mb_bd]
  refine ⟨S2, rfl, hi2, by rw [a2.1 4 16 (by decide)]; exact hf, by rw [a2.1 4 14 (by decide)]; exact h14, h7, ?_⟩
  unfold Ph at hp ⊢
  rw [a2.2.2.2]
  exact hp
theorem c_meetingAll (h : cInv T on lg tn tb pl S) (h7 : ¬ gI S 8 7 = 0) {m : Nat} (hm : m < 256) : f_Bins_meetingAll S (nI m) = some (nI (spMeet T on m)) := by
  unfold f_Bins_meetingAll
  rw [nI_255 hm, mb_in hm (by decide), mb_gd, mb_cl (by omega), ((h.2.2.2.2.2.2.2.2.2.1 h7).2 m hm).1]
theorem cc_meets (h : cInv T on lg tn tb pl S) (x : Int32) : ∃ S', f_Lots_meets S x = some (spMeets T on x, S') ∧ cInv T on lg tn tb pl S' ∧ Ph S + kBin S x ≤ Ph S' := by
  have hw := h.1
  have n8 := hw.2.2.2.1 2 (by decide)
  unfold f_Lots_meets kBin
  rw [show f_Book_has S 2 x = _ from c_has h.2.2.1.1 (s := 2) (by decide) x, mb_bd]
  unfold ixB spMeets
  cases hx : ixN x (tNt T 2) with
  | none =>
    dsimp only
    rw [if_pos rfl, if_pos rfl]
    exact ⟨S, rfl, h, Nat.le_refl _⟩
  | some b =>
    obtain ⟨hb, rfl, -, -⟩ := ixN_s (by omega) hx
    dsimp only
    rw [if_neg (by decide), if_neg (by decide)]
    obtain ⟨S1, h1, hi, hf, h14, h7, hp⟩ := c_lotsBins h
    rw [h1, mb_bd, sh_bit b (by omega), c_meetingAll hi h7 (pow_lt8 (by omega)), mb_bd]
    exact ⟨S1, rfl, hi, hp⟩
theorem cc_cross (h : cInv T on lg tn tb pl S) (x y : Int32) : ∃ S', f_Lots_cross S x y = some (spCross T on x y, S') ∧ cInv T on lg tn tb pl S' ∧ Ph S + kCross S x y ≤ Ph S' := by
  have hw := h.1
  have n8 := hw.2.2.2.1 2 (by decide)
  unfold f_Lots_cross kCross Lots_cross_j30
  rw [show f_Book_has S 2 x = _ from c_has h.2.2.1.1 (s := 2) (by decide) x, mb_bd, show f_Book_has S 2 y = _ from c_has h.2.2.1.1 (s := 2) (by decide) y, mb_bd]
  unfold ixB spCross
  cases hx : ixN x (tNt T 2) with
  | none =>
    dsimp only
    rw [if_pos (show (0 : Int32) = 0 from rfl), if_pos (show (0 : Int32) = 0 from rfl)]
    exact ⟨S, rfl, h, Nat.le_refl _⟩
  | some b =>
    obtain ⟨hb, rfl, -, -⟩ := ixN_s (by omega) hx
    dsimp only
    rw [if_neg (show ¬ (1 : Int32) = 0 by decide), if_neg (show ¬ (1 : Int32) = 0 by decide)]
    cases hy : ixN y (tNt T 2) with
    | none =>
      dsimp only
      rw [if_pos (show (0 : Int32) = 0 from rfl), if_pos (show (0 : Int32) = 0 from rfl)]
      exact ⟨S, rfl, h, Nat.le_refl _⟩
    | some d =>
      obtain ⟨hd, rfl, -, -⟩ := ixN_s (by omega) hy
      dsimp only
      rw [if_neg (show ¬ (1 : Int32) = 0 by decide), if_neg (show ¬ (1 : Int32) = 0 by decide)]
      obtain ⟨S1, h1, hi, hf, h14, h7, hp⟩ := c_lotsBins h
      rw [h1, mb_bd, sh_bit b (by omega), sh_bit d (by omega), nI_or, c_meetingAll hi h7 (or_lt8 (pow_lt8 (by omega)) (pow_lt8 (by omega))), mb_bd]
      exact ⟨S1, rfl, hi, hp⟩
