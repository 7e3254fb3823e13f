/-! the class: quarrel, alone, best -/
theorem bc_I : ∀ x, x < 256 → f_Integer_bitCount (nI x) = some (nI (pcB x 8)) := by decide +kernel
theorem st_0 {T : Tx} {set : Nat} : stN T set = 0 ↔ anyS T set 0 = false := by
  unfold stN cN
  rw [List.length_eq_zero_iff, List.filter_eq_nil_iff]
  constructor
  · intro h
    cases hc : anyS T set 0 with
    | false => rfl
    | true =>
      obtain ⟨i, hi, h1, -⟩ := any_iff.mp hc
      exact absurd h1 (h i (List.mem_range.mpr hi))
  · intro h i hi h1
    have := any_iff.mpr ⟨i, List.mem_range.mp hi, h1, has_0 (bN T 1 i)⟩
    rw [h] at this
    cases this
theorem st_le (T : Tx) (set : Nat) : stN T set ≤ tIn T := Nat.le_trans (cN_le _ _) (by rw [List.length_range]; exact Nat.le_refl _)
theorem st_I {T : Tx} (hw : wfT T) (set : Nat) : (nI (stN T set) = 0) = (anyS T set 0 = false) := by
  have h1 := st_le T set
  have h2 := hw.2.2.1
  rw [l0, mb_eq (by omega) (by omega)]
  exact propext st_0
theorem ah_c {s b : Nat} (hs : s < 256) (hb : b < 256) : f_Chart_isAhead (nI s) (nI b) = some (b2i (ahS s b)) := by
  have h1 := pcB_le s 8
  have h2 := pcB_le b 8
  unfold f_Chart_isAhead Chart_isAhead_j29 Chart_isAhead_j33 Chart_isAhead_j34 f_Integer_lowestOneBit
  rw [bc_I s hs, mb_bd, bc_I b hb, mb_bd, mb_nm, mb_bd]
  have hlow : (nI s &&& ((nI s ^^^ nI b) &&& -(nI s ^^^ nI b))) = lowI s b := by
    unfold lowI
    rw [Int32.and_assoc]
  rw [hlow]
  unfold ahS
  by_cases c1 : pcB s 8 < pcB b 8
  · have : nI (pcB s 8) - nI (pcB b 8) < 0 := by
      have h := sub_pos (a := pcB s 8) (b := pcB b 8) (by omega) (by omega)
      refine Int32.not_le.mp (fun z => ?_)
      rw [h] at z
      omega
    rw [if_pos this, if_pos c1]
    rfl
  · have h3 : ¬ nI (pcB s 8) - nI (pcB b 8) < 0 := by
      intro z
      have h := sub_pos (a := pcB s 8) (b := pcB b 8) (by omega) (by omega)
      have : 0 ≤ nI (pcB s 8) - nI (pcB b 8) := by rw [h]; omega
      exact absurd (Int32.lt_of_lt_of_le z this) Int32.lt_irrefl
    rw [if_neg h3, if_neg c1, pk_sub (by omega)]
    by_cases c2 : pcB s 8 = pcB b 8
    · rw [if_pos (by rw [c2, Nat.sub_self]; rfl), if_pos c2]
      by_cases c3 : lowI s b = 0
      · rw [if_pos c3, if_pos c3]; rfl
      · rw [if_neg c3, if_neg c3]; rfl
    · rw [if_neg (by rw [l0, mb_eq (by omega) (by omega)]; omega), if_neg c2]; rfl
variable {T : Tx} {on tn : Nat} {lg : List Nat} {tb : Nat → Int32} {pl : Int32} {S S' : St}
theorem any_0 (hw : wfT T) : anyS T 0 0 = true := any_iff.mpr ⟨0, by have := tIn_pos hw; omega, has_0 _, has_0 _⟩
theorem cc_quarrel (h : cInv T on lg tn tb pl S) : ∃ S', f_Lots_quarrel S = some (spQu T on, S') ∧ cInv T on lg tn tb pl S' ∧ Ph S + kMark S ≤ Ph S' := by
  obtain ⟨S1, h1, hi, hf, hp⟩ := c_refresh h
  refine ⟨S1, ?_, hi, hp⟩
  obtain ⟨hw, -, -, hN, hM, hF, -⟩ := hi
  have h13 := (hF.2.2 hf).1
  have hst := (hM.1 h13).2.2
  have ho := on_lt hw hF.2.1
  have n1 := hw.2.2.1
  have hle := st_le T on
  unfold f_Lots_quarrel f_Chart_smallestQuarrel
  rw [h1, mb_bd, hF.1, nI_255 ho, mb_in ho (by decide), mb_gd, mb_cl (by omega), hst on ho]
  unfold spQu
  cases ha : anyS T on 0 with
  | true =>
    rw [if_neg (by
      rw [l0, mb_le (by omega) (by omega)]
      intro z
      have := (st_0 (T := T) (set := on)).mp (by omega)
      rw [ha] at this
      cases this), mb_bd]
    rfl
  | false =>
    rw [if_pos (by
      rw [l0, mb_le (by omega) (by omega), st_0.mpr ha]
      omega), mb_nm]
    have hq1 : quTo T on 1 = on := by
      show cond (sbS 0 on && ahS 0 on && !anyS T 0 0) 0 on = on
      rw [any_0 hw]
      simp
    have key := wh_ix (f := un2 (Chart_smallestQuarrel_l25 S1)) (s := (nI on, (1 : Int32))) 255 (fun i q => q.2 = nI (i + 1) ∧ q.1 = nI (quTo T on (i + 1))) (fun r => r = nI (quTo T on 256)) ⟨rfl, by rw [hq1]⟩ ?_ ?_
    · obtain ⟨r, g1, g2⟩ := key
      rw [g1, g2, mb_bd, mb_bd]
      rfl
    · intro i q hi hI
      obtain ⟨x1, x2⟩ := q
      obtain ⟨e1, e2⟩ := hI
      dsimp only at e1 e2
      subst e1 e2
      have hq := qu_lt (T := T) ho (i + 1) (by omega)
      left
      refine ⟨(nI (quTo T on (i + 1 + 1)), nI (i + 1 + 1)), ?_, rfl, rfl⟩
      show Chart_smallestQuarrel_l25 S1 (nI (quTo T on (i + 1))) (nI (i + 1)) = _
      have hqs : quTo T on (i + 1 + 1) = cond (sbS (i + 1) on && ahS (i + 1) (quTo T on (i + 1)) && !anyS T (i + 1) 0) (i + 1) (quTo T on (i + 1)) := rfl
      unfold Chart_smallestQuarrel_l25 Chart_smallestQuarrel_j62_l25
      rw [l256, if_neg (by rw [mb_le (by omega) (by omega)]; omega), hF.1, mb_nm, mb_nm, nI_1]
      by_cases c1 : sbS (i + 1) on = true
      · rw [if_pos (by rw [sbS_I (by omega) ho]; exact c1), mb_in (by omega) (by decide), mb_gd, mb_cl (by omega), hst _ (by omega), ah_c (by omega) hq, mb_bd]
        by_cases c2 : anyS T (i + 1) 0 = false
        · rw [if_pos (by rw [st_I hw]; exact c2)]
          by_cases c3 : ahS (i + 1) (quTo T on (i + 1)) = true
          · rw [c3, if_neg (by decide)]
            rw [c1, c2, c3] at hqs
            rw [hqs]
            rfl
          · rw [Bool.eq_false_iff.mpr c3, if_pos (by rfl)]
            rw [c1, c2, Bool.eq_false_iff.mpr c3] at hqs
            rw [hqs]
            rfl
        · rw [if_neg (by rw [st_I hw]; exact c2)]
          have c2' : anyS T (i + 1) 0 = true := by
            cases hz : anyS T (i + 1) 0 with
            | true => rfl
            | false => exact absurd hz c2
          rw [c2'] at hqs
          rw [hqs]
          simp
      · rw [if_neg (by rw [sbS_I (by omega) ho]; exact c1)]
        rw [Bool.eq_false_iff.mpr c1] at hqs
        rw [hqs]
        rfl
    · intro q hI
      obtain ⟨x1, x2⟩ := q
      obtain ⟨e1, e2⟩ := hI
      dsimp only at e1 e2
      subst e1 e2
      refine ⟨nI (quTo T on 256), ?_, rfl⟩
      show Chart_smallestQuarrel_l25 S1 (nI (quTo T on (255 + 1))) (nI (255 + 1)) = _
      unfold Chart_smallestQuarrel_l25
      rw [l256, if_pos (by rw [mb_le (by omega) (by omega)]; omega)]
theorem al_cN (T : Tx) (on rest : Nat) : ∀ n, alTo T on rest n = cN (fun i => Nat.beq (bN T 0 i &&& on) rest) (List.range n)
  | 0 => rfl
  | n + 1 => by
    rw [List.range_succ, cN_snoc, ← al_cN T on rest n]
    rfl
theorem rest_tb {on k : Nat} (hb : on.testBit k = true) (j : Nat) : (on ^^^ 2 ^ k).testBit j = (on.testBit j && !decide (k = j)) := by
  rw [Nat.testBit_xor, Nat.testBit_two_pow]
  by_cases e : k = j
  · subst e
    rw [hb, decide_eq_true rfl]
    rfl
  · rw [decide_eq_false e]
    simp
theorem al_sum (T : Tx) {on k : Nat} (hb : on.testBit k = true) : stN T (on ^^^ 2 ^ k) = alTo T on (on ^^^ 2 ^ k) (tIn T) + stN T on := by
  rw [al_cN]
  unfold stN
  refine cN_sum (fun x => ?_) (fun x h1 h2 => ?_) _
  · constructor
    · intro h
      have h := has_iff.mp h
      cases hx : (bN T 0 x).testBit k with
      | true =>
        right
        refine has_iff.mpr (fun j hj => ?_)
        by_cases e : k = j
        · rw [← e]; exact hx
        · exact h j (by rw [rest_tb hb, hj, decide_eq_false e]; rfl)
      | false =>
        left
        have : bN T 0 x &&& on = on ^^^ 2 ^ k := tb_ext (fun j => by
          rw [Nat.testBit_and, rest_tb hb]
          by_cases e : k = j
          · subst e
            rw [hx, decide_eq_true rfl]
            simp
          · rw [decide_eq_false e]
            cases hj : on.testBit j with
            | false => simp
            | true =>
              rw [h j (by rw [rest_tb hb, hj, decide_eq_false e]; rfl)]
              rfl)
        show Nat.beq (bN T 0 x &&& on) (on ^^^ 2 ^ k) = true
        rw [this]
        exact Nat.beq_refl _
    · rintro (h | h)
      · have h := Nat.eq_of_beq_eq_true h
        refine has_iff.mpr (fun j hj => ?_)
        rw [← h, Nat.testBit_and, Bool.and_eq_true] at hj
        exact hj.1
      · have h := has_iff.mp h
        refine has_iff.mpr (fun j hj => ?_)
        rw [rest_tb hb, Bool.and_eq_true] at hj
        exact h j hj.1
  · have h1 := Nat.eq_of_beq_eq_true h1
    have h2 := has_iff.mp h2 k hb
    have h3 := congrArg (fun z => z.testBit k) h1
    simp only [Nat.testBit_and, rest_tb hb, h2, hb] at h3
    simp at h3
theorem cc_alone (h : cInv T on lg tn tb pl S) (x : Int32) : ∃ S', f_Lots_alone S x = some (spAlone T on x, S') ∧ cInv T on lg tn tb pl S' ∧ Ph S + kAlone S x ≤ Ph S' := by
  have hw := h.1
  have n8 := hw.2.2.2.1 0 (by decide)
  have hF := h.2.2.2.2.2.1
  have ho := on_lt hw hF.2.1
  unfold f_Lots_alone kAlone Lots_alone_j26
  rw [show f_Book_has S 0 x = _ from c_has h.2.2.1.1 (s := 0) (by decide) x, mb_bd]
  unfold ixB spAlone
  cases hx : ixN x (tNt T 0) with
  | none =>
    dsimp only
    rw [if_pos (show (0 : Int32) = 0 from rfl), if_pos (show (0 : Int32) = 0 from rfl)]
    exact ⟨S, rfl, h, Nat.le_refl _⟩
  | some k =>
    obtain ⟨hk, rfl, -, -⟩ := ixN_s (by omega) hx
    dsimp only
    rw [if_neg (show ¬ (1 : Int32) = 0 by decide), if_neg (show ¬ (1 : Int32) = 0 by decide), c_isOn hw hF (by omega), mb_bd]
    cases hb : on.testBit k with
    | false =>
      dsimp only
      rw [if_pos (show b2i false = 0 from rfl), if_pos (show b2i false = 0 from rfl)]
      exact ⟨S, rfl, h, Nat.le_refl _⟩
    | true =>
      dsimp only
      rw [if_neg (show ¬ b2i true = 0 by decide), if_neg (show ¬ b2i true = 0 by decide)]
      obtain ⟨S1, h1, hi, hf, hp⟩ := c_refresh h
      rw [h1, mb_bd]
      have hF1 := hi.2.2.2.2.2.1
      have hM1 := hi.2.2.2.2.1
      have hst := (hM1.1 (hF1.2.2 hf).1).2.2
      have hx8 : on ^^^ 2 ^ k < 256 := Nat.xor_lt_two_pow (n := 8) ho (pow_lt8 (by omega))
      unfold f_Chart_refusedByAlone
      rw [hF1.1, sh_bit k (by omega), clr_bit ho (by omega) hb, nI_255 hx8, nI_255 ho, mb_in hx8 (by decide), mb_gd, mb_in ho (by decide), mb_gd, mb_cl (by omega), mb_cl (by omega), hst _ hx8, hst _ ho, al_sum T hb, mb_bd, pk_sub (by omega), Nat.add_sub_cancel]
      exact ⟨S1, rfl, hi, hp⟩
