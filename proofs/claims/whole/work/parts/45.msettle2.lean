/-! the reference: the list of the lawful, goesThrough -/
def lwTo (T : Tx) (laws softs : Nat) : Nat → List Nat
  | 0 => []
  | i + 1 => cond (isL T laws softs i) (lwTo T laws softs i ++ [i]) (lwTo T laws softs i)
def lwS (T : Tx) (on : Nat) : List Nat := lwTo T on (keS T on) (tIn T)
def shSum (T : Tx) (l : List Nat) : Nat := (l.map (shN T)).sum
theorem lw_len (T : Tx) (laws softs : Nat) : ∀ i, (lwTo T laws softs i).length ≤ i
  | 0 => Nat.le_refl 0
  | i + 1 => by
    have h := lw_len T laws softs i
    show (cond (isL T laws softs i) (lwTo T laws softs i ++ [i]) (lwTo T laws softs i)).length ≤ i + 1
    cases isL T laws softs i
    · show (lwTo T laws softs i).length ≤ i + 1; omega
    · show (lwTo T laws softs i ++ [i]).length ≤ i + 1
      rw [List.length_append]
      show (lwTo T laws softs i).length + 1 ≤ i + 1
      omega
theorem lw_mem {T : Tx} {laws softs : Nat} : ∀ {i x : Nat}, x ∈ lwTo T laws softs i → x < i ∧ isL T laws softs x = true
  | 0, x, h => by cases h
  | i + 1, x, h => by
    have h' : x ∈ cond (isL T laws softs i) (lwTo T laws softs i ++ [i]) (lwTo T laws softs i) := h
    cases hc : isL T laws softs i with
    | false =>
      rw [hc] at h'
      obtain ⟨h1, h2⟩ := lw_mem h'
      exact ⟨by omega, h2⟩
    | true =>
      rw [hc] at h'
      rcases List.mem_append.mp h' with q | q
      · obtain ⟨h1, h2⟩ := lw_mem q
        exact ⟨by omega, h2⟩
      · rw [List.mem_singleton] at q
        subst q
        exact ⟨by omega, hc⟩
theorem shSum_le (T : Tx) : ∀ l : List Nat, shSum T l ≤ 1000 * l.length
  | [] => Nat.le_refl 0
  | a :: l => by
    have h := shSum_le T l
    have h1 := (shI_N T a).2
    show shN T a + shSum T l ≤ 1000 * (l.length + 1)
    omega
theorem shSum_app (T : Tx) (l : List Nat) (x : Nat) : shSum T (l ++ [x]) = shSum T l + shN T x := by
  unfold shSum
  rw [List.map_append, List.sum_append]
  simp
/-- what settles leaves -/
def SE (T : Tx) (on : Nat) (M : St) : Prop := gI M 0 53 = nI (keS T on) ∧ gI M 0 54 = nI (lwS T on).length ∧ gI M 0 57 = nI (shSum T (lwS T on)) ∧ ∀ k x, (lwS T on)[k]? = some x → gA M 0 55 k = nI x ∧ gA M 0 56 k = nI (shN T x)
theorem m_isLawful {lv : Nat} {T : Tx} {M : St} (hw : wfT T) (h : MT lv T M) (hb : BT T M) {on ke : Nat} (ho : ON T on M) (hk : gI M 0 53 = nI ke) (hke : ke < 256) {i : Nat} (hi : i < tIn T) : f_Model_isLawful M (nI i) = some (b2i (isL T on ke i)) := by
  have n1 := hw.2.2.1
  have n8 := hw.2.2.2.1 0 (by decide)
  have o8 : on < 256 := by
    have : 2 ^ tNt T 0 ≤ 2 ^ 8 := Nat.pow_le_pow_right (by decide) n8
    have := ho.2
    omega
  obtain ⟨e1, e2, e3⟩ := hb.2 i hi
  have b0 := bN_lt hw (show (0 : Nat) < 5 by decide) i
  have b1 := bN_lt hw (show (1 : Nat) < 5 by decide) i
  unfold f_Model_isLawful
  rw [mb_in (by omega) (by decide), mb_gd, m_laws hw h ho, mb_bd, mb_bd, mb_cl (by omega), e1]
  unfold Model_isLawful_j40 Model_isLawful_j41
  by_cases c1 : has (bN T 0 i) on = true
  · rw [if_pos (by rw [has_I b0 o8]; exact c1), mb_gd, e2, hk]
    by_cases c2 : has (bN T 1 i) ke = true
    · rw [if_pos (by rw [has_I b1 hke]; exact c2), isB1, mb_gd]
      unfold isL
      rw [c1, c2]
      rfl
    · rw [if_neg (by rw [has_I b1 hke]; exact c2), isB0, mb_gd]
      unfold isL
      rw [c1, Bool.eq_false_iff.mpr c2]
      rfl
  · rw [if_neg (by rw [has_I b0 o8]; exact c1), isB0, mb_gd]
    unfold isL
    rw [Bool.eq_false_iff.mpr c1]
    rfl
theorem ON.ag {T : Tx} {on : Nat} {M M' : St} {LI LA : List Nat} (h : ON T on M) (a : agY LI LA M M') (h1 : 52 ∉ LI) : ON T on M' := ⟨by rw [a.1 52 h1]; exact h.1, h.2⟩
theorem SD.ag {T : Tx} {M M' : St} {LI LA : List Nat} (h : SD T M) (a : agY LI LA M M') (h1 : 45 ∉ LA) : SD T M' := fun f hf => by rw [a.2.1 45 h1]; exact h f hf
/-- the list as the loop over the inputs builds it -/
def LI2 (T : Tx) (l : List Nat) (M : St) : Prop := gI M 0 54 = nI l.length ∧ gI M 0 57 = nI (shSum T l) ∧ ∀ k x, l[k]? = some x → gA M 0 55 k = nI x ∧ gA M 0 56 k = nI (shN T x)
theorem m_lists {lv : Nat} {T : Tx} {M : St} (hw : wfT T) (h : MT lv T M) (hh : HO lv T M) (ht : TE lv T M) (hd : SD T M) (hb : BT T M) {on ke : Nat} (ho : ON T on M) (hk : gI M 0 53 = nI ke) (hke : ke < 256) (h54 : gI M 0 54 = 0) (h57 : gI M 0 57 = 0) : ∃ M', wh (un2 Model_settles_l160) (M, (0 : Int32)) = some M' ∧ agY [54, 57] [49, 51, 55, 56] M M' ∧ LI2 T (lwTo T on ke (tIn T)) M' := by
  have n1 := hw.2.2.1
  have key := wh_ix (f := un2 Model_settles_l160) (s := (M, (0 : Int32))) (tIn T) (fun i q => q.2 = nI i ∧ agY [54, 57] [49, 51, 55, 56] M q.1 ∧ LI2 T (lwTo T on ke i) q.1) (fun M' => agY [54, 57] [49, 51, 55, 56] M M' ∧ LI2 T (lwTo T on ke (tIn T)) M') ⟨rfl, agY.rf M, h54, h57, fun k x hx => by cases hx⟩ ?_ ?_
  · exact key
  · intro i q hi hI
    obtain ⟨M1, x4⟩ := q
    obtain ⟨e1, a1, q1, q2, q3⟩ := hI
    dsimp only at e1 a1 q1 q2 q3
    subst e1
    have aT1 : agT lv M M1 := a1.toT (by decide) (by decide) lv
    have hM1 := h.ag hw aT1
    have hb1 := hb.ag a1 (by decide) ⟨by decide, by decide, by decide⟩
    have ho1 := ho.ag a1 (by decide)
    have hk1 : gI M1 0 53 = nI ke := by rw [a1.1 53 (by decide)]; exact hk
    have hlen := lw_len T on ke i
    have hsum := shSum_le T (lwTo T on ke i)
    have hsh := (shI_N T i).2
    left
    have b0 : Model_settles_l160 M1 (nI i) = (if b2i (isL T on ke i) = 0 then (Model_settles_j235_l160 M1 (nI i)) else (gd (inb (gI M1 0 54) 32768) <| nm (pA M1 0 55 (gI M1 0 54).toNatClampNeg (nI i)) fun S_40 => bd2 (f_Model_shareOf S_40 (nI i)) fun v_42 S_43 => gd (inb (gI S_40 0 54) 32768) <| nm (pA S_43 0 56 (gI S_40 0 54).toNatClampNeg v_42) fun S_45 => gd (inb (gI S_45 0 54) 32768) <| nm (pI S_45 0 57 ((gI S_45 0 57) + (gA S_45 0 56 (gI S_45 0 54).toNatClampNeg))) fun S_47 => nm (pI S_47 0 54 ((gI S_47 0 54) + (1 : Int32))) fun S_48 => Model_settles_j235_l160 S_48 (nI i))) := by
      unfold Model_settles_l160
      rw [hb1.1, if_neg (by rw [mb_le (by omega) (by omega)]; omega), m_isLawful hw hM1 hb1 ho1 hk1 hke hi, mb_bd]
    cases hc : isL T on ke i with
    | false =>
      have el : lwTo T on ke (i + 1) = lwTo T on ke i := by
        show cond (isL T on ke i) _ _ = _
        rw [hc]
        rfl
      refine ⟨(M1, nI (i + 1)), ?_, rfl, a1, ?_⟩
      · show Model_settles_l160 M1 (nI i) = _
        rw [b0, hc, if_pos (by rfl)]
        unfold Model_settles_j235_l160
        rw [mb_nm, nI_1]
      · rw [el]
        exact ⟨q1, q2, q3⟩
    | true =>
      have el : lwTo T on ke (i + 1) = lwTo T on ke i ++ [i] := by
        show cond (isL T on ke i) _ _ = _
        rw [hc]
        rfl
      generalize hn : (lwTo T on ke i).length = n at *
      have aS : agY [54, 57] [49, 51, 55, 56] M1 (pA M1 0 55 n (nI i)) := agY.pA M1 55 n _ (by decide)
      have aT2 : agT lv M (pA M1 0 55 n (nI i)) := aT1.tr (aS.toT (by decide) (by decide) lv)
      have hM2 := h.ag hw aT2
      obtain ⟨M3, h3, a3⟩ := m_shareOf hw hM2 (hh.ag aT2) (ht.ag aT2) ((hd.ag a1 (by decide)).ag aS (by decide)) (show i < 32768 by omega)
      have a3' : agY [54, 57] [49, 51, 55, 56] (pA M1 0 55 n (nI i)) M3 := a3.Y.wk (by decide) (by decide)
      have g54 : gI M3 0 54 = nI n := by rw [a3.1]; exact q1
      have g57 : gI M3 0 57 = nI (shSum T (lwTo T on ke i)) := by rw [a3.1]; exact q2
      refine ⟨(pI (pI (pA M3 0 56 n (nI (shN T i))) 0 57 (nI (shSum T (lwTo T on ke i) + shN T i))) 0 54 (nI (n + 1)), nI (i + 1)), ?_, rfl, ?_, ?_⟩
      · show Model_settles_l160 M1 (nI i) = _
        rw [b0, hc, if_neg (by decide), q1, mb_in (by omega) (by decide), mb_gd, mb_nm, mb_cl (by omega), h3, mb_bd2]
        show (gd (inb (gI M1 0 54) 32768) <| nm (pA M3 0 56 (gI M1 0 54).toNatClampNeg (nI (shN T i))) fun S_45 => gd (inb (gI S_45 0 54) 32768) <| nm (pI S_45 0 57 ((gI S_45 0 57) + (gA S_45 0 56 (gI S_45 0 54).toNatClampNeg))) fun S_47 => nm (pI S_47 0 54 ((gI S_47 0 54) + (1 : Int32))) fun S_48 => Model_settles_j235_l160 S_48 (nI i)) = _
        rw [q1, mb_in (by omega) (by decide), mb_gd, mb_cl (by omega), mb_nm]
        have z54 : gI (pA M3 0 56 n (nI (shN T i))) 0 54 = nI n := g54
        have z57 : gI (pA M3 0 56 n (nI (shN T i))) 0 57 = nI (shSum T (lwTo T on ke i)) := g57
        rw [z54, mb_in (by omega) (by decide), mb_gd, mb_nm, z57, mb_cl (by omega), mb_AA, if_pos ⟨rfl, rfl, rfl⟩, nI_add, mb_nm]
        have y54 : gI (pI (pA M3 0 56 n (nI (shN T i))) 0 57 (nI (shSum T (lwTo T on ke i) + shN T i))) 0 54 = nI n := by
          rw [mb_II, if_neg (by decide)]
          exact g54
        rw [y54, nI_1]
        unfold Model_settles_j235_l160
        rw [mb_nm, nI_1]
      · exact (a1.tr aS).tr (a3'.tr ((agY.pA M3 56 n _ (by decide)).tr ((agY.pI _ 57 _ (by decide)).tr (agY.pI _ 54 _ (by decide)))))
      · rw [el]
        refine ⟨?_, ?_, ?_⟩
        · rw [mb_II, if_pos ⟨rfl, rfl⟩, List.length_append, hn]
          rfl
        · rw [mb_II, if_neg (by decide), mb_II, if_pos ⟨rfl, rfl⟩, shSum_app]
        · intro k x hx
          have r55 : gA (pI (pI (pA M3 0 56 n (nI (shN T i))) 0 57 (nI (shSum T (lwTo T on ke i) + shN T i))) 0 54 (nI (n + 1))) 0 55 k = gA (pA M1 0 55 n (nI i)) 0 55 k := by
            show gA (pA M3 0 56 n (nI (shN T i))) 0 55 k = _
            rw [mb_AA, if_neg (fun z => absurd z.2.1 (by decide)), a3.2.2.2 55 (by decide)]
          have r56 : gA (pI (pI (pA M3 0 56 n (nI (shN T i))) 0 57 (nI (shSum T (lwTo T on ke i) + shN T i))) 0 54 (nI (n + 1))) 0 56 k = gA (pA M3 0 56 n (nI (shN T i))) 0 56 k := rfl
          rw [r55, r56, mb_AA, mb_AA]
          by_cases e : k = n
          · rw [List.getElem?_append_right (by omega), hn, e, Nat.sub_self] at hx
            cases hx
            rw [if_pos ⟨rfl, rfl, e⟩, if_pos ⟨rfl, rfl, e⟩]
            exact ⟨rfl, rfl⟩
          · have hlt : k < n := by
              have := (List.getElem?_eq_some_iff.mp hx).1
              rw [List.length_append, hn] at this
              have t1 : k < n + 1 := this
              omega
            rw [List.getElem?_append_left (by omega)] at hx
            rw [if_neg (fun z => e z.2.2), if_neg (fun z => e z.2.2)]
            have := q3 k x hx
            rw [a3.2.2.2 56 (by decide)]
            exact ⟨this.1, by rw [mb_AA, if_neg (fun z => absurd z.2.1 (by decide))]; exact this.2⟩
  · intro q hI
    obtain ⟨M1, x4⟩ := q
    obtain ⟨e1, a1, q1⟩ := hI
    dsimp only at e1 a1 q1
    subst e1
    have hb1 := hb.ag a1 (by decide) ⟨by decide, by decide, by decide⟩
    refine ⟨M1, ?_, a1, q1⟩
    show Model_settles_l160 M1 (nI (tIn T)) = _
    unfold Model_settles_l160
    rw [hb1.1, if_pos (by rw [mb_le (by omega) (by omega)]; omega)]
theorem m_settles {lv : Nat} {T : Tx} {M : St} (hw : wfT T) (h : MT lv T M) (hh : HO lv T M) (ht : TE lv T M) (hd : SD T M) (hb : BT T M) {on : Nat} (ho : ON T on M) : ∃ M', f_Model_settles M = some M' ∧ agY [53, 54, 57] [49, 51, 55, 56] M M' ∧ SE T on M' := by
  have n8 := hw.2.2.2.1 0 (by decide)
  have o8 : on < 256 := by
    have : 2 ^ tNt T 0 ≤ 2 ^ 8 := Nat.pow_le_pow_right (by decide) n8
    have := ho.2
    omega
  have a0 : agY [53, 54, 57] [49, 51, 55, 56] M (pI M 0 53 0) := agY.pI M 53 _ (by decide)
  have hM0 := h.ag hw (a0.toT (by decide) (by decide) lv)
  have hb0 := hb.ag a0 (by decide) ⟨by decide, by decide, by decide⟩
  have ho0 := ho.ag a0 (by decide)
  obtain ⟨M1, h1, a1, k1⟩ := m_keeps hw hM0 hb0 o8 (by rw [mb_II, if_pos ⟨rfl, rfl⟩])
  have a1' : agY [53, 54, 57] [49, 51, 55, 56] (pI M 0 53 0) M1 := a1.wk (by decide) (by decide)
  have a2 : agY [53, 54, 57] [49, 51, 55, 56] M1 (pI (pI M1 0 54 0) 0 57 0) := (agY.pI M1 54 _ (by decide)).tr (agY.pI _ 57 _ (by decide))
  have a02 := (a0.tr a1').tr a2
  have aT2 : agT lv M (pI (pI M1 0 54 0) 0 57 0) := a02.toT (by decide) (by decide) lv
  obtain ⟨M3, h3, a3, q1, q2, q3⟩ := m_lists hw (h.ag hw aT2) (hh.ag aT2) (ht.ag aT2) (hd.ag a02 (by decide)) (hb.ag a02 (by decide) ⟨by decide, by decide, by decide⟩) (ho.ag a02 (by decide)) (ke := keS T on) (by rw [mb_II, if_neg (by decide), mb_II, if_neg (by decide)]; exact k1) (keS_lt hw on) (by rw [mb_II, if_neg (by decide), mb_II, if_pos ⟨rfl, rfl⟩]) (by rw [mb_II, if_pos ⟨rfl, rfl⟩])
  refine ⟨M3, ?_, a02.tr (a3.wk (by decide) (by decide)), ?_, q1, q2, q3⟩
  · unfold f_Model_settles Model_settles_j147
    have e0 : f_Model_isAny (pI M 0 53 0) (nI on) 0 = some (b2i (anyS T on 0)) := m_isAny hw hb0 o8 (show 0 < 256 by omega)
    rw [mb_nm, m_laws hw hM0 ho0, mb_bd, e0, mb_bd, h1, mb_bd, mb_nm, mb_nm, h3, mb_bd]
  · rw [a3.1 53 (by decide), mb_II, if_neg (by decide), mb_II, if_neg (by decide)]
    exact k1
