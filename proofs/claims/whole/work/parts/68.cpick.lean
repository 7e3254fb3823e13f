/-! the class: drawing -/
theorem shSum_mono (T : Tx) (l : List Nat) {a b : Nat} (h : a ≤ b) : shSum T (l.take a) ≤ shSum T (l.take b) := by
  have : l.take a = (l.take b).take a := by rw [List.take_take, Nat.min_eq_left h]
  rw [this]
  exact shSum_tk T (l.take b) a
theorem pick_char {T : Tx} {l : List Nat} {j : Nat} (hs : shSum T l < 2147483648) (hj : j < 2147483648) : ∀ {n k : Nat}, pkTo T l (nI j) n = some k → k < n ∧ j < shSum T (l.take (k + 1)) ∧ ∀ m, m < k → shSum T (l.take (m + 1)) ≤ j
  | 0, k, h => by cases h
  | n + 1, k, h => by
    have ht := shSum_tk T l
    have h' : (match pkTo T l (nI j) n with | some a => some a | none => if nI (shSum T (l.take (n + 1))) ≤ nI j then none else some n) = some k := h
    cases hx : pkTo T l (nI j) n with
    | some a =>
      rw [hx] at h'
      have e : a = k := Option.some.inj h'
      subst e
      obtain ⟨g1, g2, g3⟩ := pick_char hs hj hx
      exact ⟨by omega, g2, g3⟩
    | none =>
      rw [hx] at h'
      dsimp only at h'
      by_cases c : nI (shSum T (l.take (n + 1))) ≤ nI j
      · rw [if_pos c] at h'
        cases h'
      · rw [if_neg c] at h'
        have e : n = k := Option.some.inj h'
        subst e
        have h1 := ht (n + 1)
        rw [mb_le (by omega) (by omega)] at c
        refine ⟨by omega, by omega, ?_⟩
        have key : ∀ n, pkTo T l (nI j) n = none → ∀ m, m < n → shSum T (l.take (m + 1)) ≤ j := by
          intro n
          induction n with
          | zero => intro _ m hm; exact absurd hm (Nat.not_lt_zero m)
          | succ n ih =>
            intro hn m hm
            have hn' : (match pkTo T l (nI j) n with | some a => some a | none => if nI (shSum T (l.take (n + 1))) ≤ nI j then none else some n) = none := hn
            cases hy : pkTo T l (nI j) n with
            | some a => rw [hy] at hn'; cases hn'
            | none =>
              rw [hy] at hn'
              dsimp only at hn'
              by_cases d : nI (shSum T (l.take (n + 1))) ≤ nI j
              · have h2 := ht (n + 1)
                rw [mb_le (by omega) (by omega)] at d
                by_cases e : m = n
                · rw [e]; exact d
                · exact ih hy m (by omega)
              · rw [if_neg d] at hn'
                cases hn'
        exact key n hx
variable {T : Tx} {on tn : Nat} {lg : List Nat} {tb : Nat → Int32} {pl : Int32} {S S' : St}
theorem c_drawnBy (h : cInv T on lg tn tb pl S) (hf : ¬ gI S 4 17 = 0) {j k : Nat} (hj : j < shSum T (lwS T on)) (hp : pkTo T (lwS T on) (nI j) (lwS T on).length = some k) : f_Chart_drawnBy S (nI j) = some (nI k) := by
  have hw := h.1
  have hlen := lwS_len hw on
  have hsum := shSum_le T (lwS T on)
  obtain ⟨f16, f15, e11, eB⟩ := h.2.2.2.2.2.2.2.1 hf
  obtain ⟨-, e9, -, -⟩ := h.2.2.2.2.2.1.2.2 f16
  obtain ⟨hk, hk1, hk2⟩ := pick_char (by omega) (by omega) hp
  -- a block ahead of which the sums stay below
  have hblk : ∀ b, shSum T ((lwS T on).take (64 * b)) ≤ j → 64 * b < (lwS T on).length := by
    intro b hb
    rcases Nat.lt_or_ge (64 * b) (lwS T on).length with z | z
    · exact z
    · rw [List.take_of_length_le z] at hb
      omega
  unfold f_Chart_drawnBy
  rw [if_neg (nI_pos (by omega)), e11, if_pos (by rw [mb_lt (by omega) (by omega)]; exact hj)]
  have key := wh_ix (f := Chart_drawnBy_l16 S (nI j)) (s := (0 : Int32)) 511 (fun b x => x = nI b ∧ shSum T ((lwS T on).take (64 * b)) ≤ j) (fun r => ∃ b, b ≤ 511 ∧ r = nI b ∧ shSum T ((lwS T on).take (64 * b)) ≤ j) ⟨rfl, by rw [Nat.mul_zero, List.take_zero]; exact Nat.zero_le _⟩ ?_ ?_
  · obtain ⟨r, h1, b, hb, rfl, hbs⟩ := key
    rw [h1, mb_bd]
    have hbl := hblk b hbs
    have hkb : 64 * b ≤ k := by
      rcases Nat.lt_or_ge k (64 * b) with z | z
      · have := shSum_mono T (lwS T on) (show k + 1 ≤ 64 * b by omega)
        omega
      · exact z
    -- the search within it
    have srch : ∀ x3 : Int32, x3 = nI (j - shSum T ((lwS T on).take (64 * b))) → wh (un2 (Chart_drawnBy_l64 S)) (x3, nI (64 * b)) = some (nI k) := by
      intro x3 e3
      have key2 := wh_ix (f := un2 (Chart_drawnBy_l64 S)) (s := (x3, nI (64 * b))) (k - 64 * b) (fun m q => q.2 = nI (64 * b + m) ∧ q.1 = nI (j - shSum T ((lwS T on).take (64 * b + m))) ∧ shSum T ((lwS T on).take (64 * b + m)) ≤ j) (fun r => r = nI k) ⟨rfl, e3, hbs⟩ ?_ ?_
      · obtain ⟨r, g1, g2⟩ := key2
        rw [g1, g2]
      · intro m q hm hI
        obtain ⟨y3, y4⟩ := q
        obtain ⟨g1, g2, g3⟩ := hI
        dsimp only at g1 g2 g3
        subst g1 g2
        have hg := get_some (show 64 * b + m < (lwS T on).length by omega)
        have hle := hk2 (64 * b + m) (by omega)
        rw [shSum_take T _ hg] at hle
        left
        refine ⟨(nI (j - shSum T ((lwS T on).take (64 * b + (m + 1)))), nI (64 * b + (m + 1))), ?_, rfl, rfl, ?_⟩
        · show Chart_drawnBy_l64 S (nI (j - shSum T ((lwS T on).take (64 * b + m)))) (nI (64 * b + m)) = _
          unfold Chart_drawnBy_l64
          rw [e9, if_neg (by rw [mb_le (by omega) (by omega)]; omega), c_shareOf h f16 f15 hg, mb_bd, mb_nm, if_pos (by rw [sub_pos (by omega) (by omega)]; omega), mb_nm, pk_sub (by omega), nI_1, ← Nat.add_assoc, shSum_take T _ hg, Nat.sub_sub]
        · show shSum T ((lwS T on).take (64 * b + (m + 1))) ≤ j
          rw [← Nat.add_assoc, shSum_take T _ hg]
          exact hle
      · intro q hI
        obtain ⟨y3, y4⟩ := q
        obtain ⟨g1, g2, g3⟩ := hI
        dsimp only at g1 g2 g3
        rw [show 64 * b + (k - 64 * b) = k by omega] at g1 g2 g3
        subst g1 g2
        have hg := get_some hk
        have hgt := hk1
        rw [shSum_take T _ hg] at hgt
        have h1000 := (shI_N T ((lwS T on).getD k 0)).2
        refine ⟨nI k, ?_, rfl⟩
        show Chart_drawnBy_l64 S (nI (j - shSum T ((lwS T on).take k))) (nI k) = _
        unfold Chart_drawnBy_l64
        rw [e9, if_neg (by rw [mb_le (by omega) (by omega)]; omega), c_shareOf h f16 f15 hg, mb_bd, mb_nm, if_neg (by rw [sub_pos (by omega) (by omega)]; omega)]
    unfold Chart_drawnBy_j39 Chart_drawnBy_j57
    rw [mb_nm, mb_nm, l64, pk_mul, Nat.mul_comm b 64]
    by_cases c : nI b ≤ 0
    · rw [if_pos c]
      rw [l0, mb_le (by omega) (by omega)] at c
      have : b = 0 := by omega
      subst this
      exact srch _ (by rw [Nat.mul_zero, List.take_zero]; rfl)
    · rw [if_neg c]
      rw [l0, mb_le (by omega) (by omega)] at c
      rw [l1, pk_sub (by omega), mb_in (by omega) (by decide), mb_gd, mb_cl (by omega), eB (b - 1) (by omega), show b - 1 + 1 = b by omega, pk_sub hbs]
      exact srch _ rfl
  · intro b x hb hI
    obtain ⟨rfl, hbs⟩ := hI
    have hbl := hblk b hbs
    have hts := shSum_tk T (lwS T on) (64 * (b + 1))
    unfold Chart_drawnBy_l16
    rw [show (511 : Int32) = nI 511 from rfl, if_neg (by rw [mb_le (by omega) (by omega)]; omega), mb_in (by omega) (by decide), mb_gd, mb_cl (by omega), eB b hbl, mb_nm, nI_1]
    by_cases c : nI j < nI (shSum T ((lwS T on).take (64 * (b + 1))))
    · right
      rw [if_pos c]
      exact ⟨_, rfl, b, by omega, rfl, hbs⟩
    · left
      rw [if_neg c]
      rw [mb_lt (by omega) (by omega)] at c
      exact ⟨_, rfl, rfl, by omega⟩
  · intro x hI
    obtain ⟨rfl, hbs⟩ := hI
    refine ⟨nI 511, ?_, 511, by omega, rfl, hbs⟩
    unfold Chart_drawnBy_l16
    rw [show (511 : Int32) = nI 511 from rfl, if_pos (by rw [mb_le (by omega) (by omega)]; omega)]
theorem cc_pick (h : cInv T on lg tn tb pl S) (x : Int32) : ∃ S', f_Lots_pick S x = some (spPick T on x, S') ∧ cInv T on lg tn tb pl S' ∧ Ph S + kSh S ≤ Ph S' := by
  obtain ⟨S1, h1, hi, hf, hp⟩ := c_refreshShares h
  have hlen := lwS_len h.1 on
  have hsum := shSum_le T (lwS T on)
  refine ⟨S1, ?_, hi, hp⟩
  unfold f_Lots_pick
  rw [h1, mb_bd]
  unfold spPick
  cases hx : ixN x (shSum T (lwS T on)) with
  | none =>
    unfold f_Chart_drawnBy Chart_drawnBy_j12
    rw [(hi.2.2.2.2.2.2.2.1 hf).2.2.1]
    rcases ixN_n hx with c | ⟨c, d⟩
    · rw [if_pos c, mb_bd]
    · rw [if_neg c, if_neg (fun z => absurd (Int32.lt_of_lt_of_le z d) Int32.lt_irrefl), mb_bd]
  | some j =>
    obtain ⟨hj, rfl, c, d⟩ := ixN_s (by omega) hx
    obtain ⟨k, hk, e⟩ := pk_found h.1 hj
    rw [c_drawnBy hi hf hj e, mb_bd]
    unfold spPk
    rw [e]
theorem cc_draw (h : cInv T on lg tn tb pl S) (seed : Int64) (i : Int32) : ∃ S', f_Lots_draw S seed i = some ((spDraw T on lg seed i).1, S') ∧ cInv T on (spDraw T on lg seed i).2 tn tb pl S' ∧ Ph S + kSh S ≤ Ph S' := by
  obtain ⟨S1, h1, hi, hf, hp⟩ := c_refreshShares h
  have hw := h.1
  have hlen := lwS_len hw on
  have hsum := shSum_le T (lwS T on)
  obtain ⟨f16, f15, e11, -⟩ := hi.2.2.2.2.2.2.2.1 hf
  unfold f_Lots_draw Lots_draw_j21 spDraw
  rw [h1, mb_bd, e11]
  by_cases c0 : shSum T (lwS T on) = 0
  · rw [if_pos c0, c0]
    refine ⟨S1, ?_, hi, hp⟩
    by_cases c : i < 0
    · rw [if_pos c]
    · rw [if_neg c, if_neg (by decide)]
  · rw [if_neg c0]
    by_cases c : i < 0
    · rw [if_pos c, if_neg (fun z => absurd (Int32.lt_of_lt_of_le c z) Int32.lt_irrefl)]
      exact ⟨S1, rfl, hi, hp⟩
    · rw [if_neg c, if_pos (Int32.not_lt.mp c), if_pos (by rw [l0, mb_lt (by omega) (by omega)]; omega), mb_nm, mb_nm]
      obtain ⟨j, hj, ej⟩ := xd_lt (show 0 < shSum T (lwS T on) by omega) (by omega) seed i
      obtain ⟨k, hk, e⟩ := pk_found hw hj
      have hg := get_some hk
      have hlt := lwS_lt hg
      have hnz : nzL ((nI (shSum T (lwS T on))).toInt64) = true := by
        refine decide_eq_true (fun z => ?_)
        have z2 := congrArg Int64.toInt z
        rw [Int32.toInt_toInt64] at z2
        have z3 : (nI (shSum T (lwS T on))).toInt = ((shSum T (lwS T on) : Nat) : Int) := nI_toInt (by omega)
        rw [z3] at z2
        have z4 : ((shSum T (lwS T on) : Nat) : Int) = 0 := z2
        omega
      rw [hnz, mb_gd]
      have ex : ((xdV (xdW seed i)).toUInt64 >>> ((1 : Int32).toInt64.toUInt64 &&& Int64.toUInt64 63)).toInt64 = xdU (xdV (xdW seed i)) := rfl
      show ∃ S', (bd (f_Chart_drawnBy S1 (xd (shSum T (lwS T on)) seed i)) fun v_10 => bd (f_Chart_inputOf S1 v_10) fun v_12 => bd (f_Log_add S1 v_12) fun S_14 => nm (pI S_14 8 10 (0 : Int32)) fun S_15 => some (v_10, S_15)) = _ ∧ _
      rw [ej, c_drawnBy hi hf hj e, mb_bd, c_inputOf hi f16 hg, mb_bd]
      unfold spPk spLog
      rw [e]
      dsimp only
      obtain ⟨-, hT, hK, hN, hM, hF, hS, hU, hL, hX, hY, hZ, hC⟩ := id hi
      have l1 := hL.1
      unfold f_Log_add Log_add_j32
      rw [hL.2.1]
      by_cases d : lg.length < 200
      · rw [if_neg (by rw [mb_le (by omega) (by omega)]; omega), mb_in d (by decide), mb_gd, mb_nm, mb_nm, mb_bd, mb_nm, mb_cl (by omega), mb_IA, hL.2.1, nI_1, if_pos d]
        obtain ⟨S2, e2⟩ : ∃ S2, S2 = pI (pI (pA S1 7 0 lg.length (nI ((lwS T on).getD k 0))) 7 1 (nI (lg.length + 1))) 8 10 0 := ⟨_, rfl⟩
        rw [← e2]
        have a : agC [(7, 1), (8, 10)] [(7, 0)] [] S1 S2 := by
          rw [e2]
          exact ((agC.pA S1 7 0 _ _ (by decide)).tr (agC.pI _ 7 1 _ (by decide))).tr (agC.pI _ 8 10 _ (by decide))
        have g89 : gI S2 8 10 = 0 := by rw [e2]; simp [mb_II]
        refine ⟨S2, rfl, ⟨hw, hT.ag a (by decide), hK.ag a (by decide) (by decide), hN.ag a, hM.ag a (by decide) (by decide), hF.ag a (by decide) (by decide), hS.ag a (by decide) (by decide), hU.ag a (by decide) (by decide), ⟨?_, ?_, ?_⟩, hX.ag a (by decide) (by decide), hY.ag a (by decide) (by decide), fun z => absurd g89 z, hC.ag a (by decide) (by decide)⟩, ?_⟩
        · rw [List.length_append]
          show lg.length + 1 ≤ 200
          omega
        · rw [e2, mb_II, if_neg (by decide), mb_II, if_pos ⟨rfl, rfl⟩, List.length_append]
          rfl
        · intro q x hx
          rw [e2]
          show gA (pA S1 7 0 lg.length _) 7 0 q = _ ∧ _
          rw [mb_AA]
          by_cases e : q = lg.length
          · rw [if_pos ⟨rfl, rfl, e⟩]
            rw [e, List.getElem?_append_right (Nat.le_refl _), Nat.sub_self] at hx
            have hx : some ((lwS T on).getD k 0) = some x := hx
            rw [← Option.some.inj hx]
            exact ⟨rfl, hlt⟩
          · rw [if_neg (fun z => e z.2.2)]
            have hlt2 : q < (lg ++ [(lwS T on).getD k 0]).length := by
              rcases Nat.lt_or_ge q (lg ++ [(lwS T on).getD k 0]).length with z | z
              · exact z
              · rw [List.getElem?_eq_none z] at hx
                cases hx
            rw [List.length_append] at hlt2
            have hlt2 : q < lg.length + 1 := hlt2
            rw [List.getElem?_append_left (by omega)] at hx
            exact hL.2.2 q x hx
        · unfold Ph at hp ⊢
          rw [a.2.2.2]
          exact hp
      · rw [if_pos (by rw [mb_le (by omega) (by omega)]; omega), mb_bd, mb_nm, if_neg d]
        have a : agC [(8, 10)] [] [] S1 (pI S1 8 10 0) := agC.pI S1 8 10 _ (by decide)
        have g89 : gI (pI S1 8 10 0) 8 10 = 0 := by rw [mb_II, if_pos ⟨rfl, rfl⟩]
        refine ⟨_, rfl, ⟨hw, hT.ag a (by decide), hK.ag a (by decide) (by decide), hN.ag a, hM.ag a (by decide) (by decide), hF.ag a (by decide) (by decide), hS.ag a (by decide) (by decide), hU.ag a (by decide) (by decide), hL.ag a (by decide) (by decide), hX.ag a (by decide) (by decide), hY.ag a (by decide) (by decide), fun z => absurd g89 z, hC.ag a (by decide) (by decide)⟩, ?_⟩
        unfold Ph at hp ⊢
        rw [a.2.2.2]
        exact hp
