/-! the reference: goesThrough -/
theorem pr_tail {T : Tx} (hw : wfT T) : ∀ n, n ≤ tNf T → pr (tMa T) (tNf T - n) n ≤ tIn T := by
  intro n hn
  have e : tIn T = pr (tMa T) 0 (tNf T - n) * pr (tMa T) (tNf T - n) n := by
    unfold tIn
    have := pr_split (ma := tMa T) (tNf T - n) n 0
    rw [Nat.zero_add] at this
    rw [← this, show tNf T - n + n = tNf T by omega]
  have h1 : 1 ≤ pr (tMa T) 0 (tNf T - n) := pr_pos _ _ (fun g _ b => (hw.2.1 g (by omega)).1)
  rw [e]
  exact Nat.le_mul_of_pos_left _ h1
theorem sub1 (x : Int32) : x + (-1) = x - 1 := (Int32.sub_eq_add_neg ..).symm
theorem m_strides {lv : Nat} {T : Tx} {M : St} (hw : wfT T) (h : MT lv T M) (h44 : gI M 0 44 = 1) : ∃ M', wh (un2 Model_goesThrough_l17) (M, nI (tNf T) - 1) = some M' ∧ agY [44] [45] M M' ∧ gI M' 0 44 = nI (tIn T) ∧ SD T M' := by
  have n6 := hw.1
  have n1 := hw.2.2.1
  have hlv := h.1
  have key := wh_ix (f := un2 Model_goesThrough_l17) (s := (M, nI (tNf T) - 1)) (tNf T) (fun n q => q.2 = nI (tNf T - n) - 1 ∧ agY [44] [45] M q.1 ∧ gI q.1 0 44 = nI (pr (tMa T) (tNf T - n) n) ∧ ∀ f, tNf T - n ≤ f → f < tNf T → gA q.1 0 45 f = nI (tSd T f)) (fun M' => agY [44] [45] M M' ∧ gI M' 0 44 = nI (tIn T) ∧ SD T M') ⟨rfl, agY.rf M, h44, fun f a b => by omega⟩ ?_ ?_
  · exact key
  · intro n q hn hI
    obtain ⟨M1, x1⟩ := q
    obtain ⟨e1, a1, g1, s1⟩ := hI
    dsimp only at e1 a1 g1 s1
    have hM1 := h.ag hw (a1.toT (by decide) (by decide) lv)
    obtain ⟨m, hm⟩ : ∃ m, tNf T - n = m + 1 := ⟨tNf T - n - 1, by omega⟩
    have hm2 : tNf T - (n + 1) = m := by omega
    have ex : x1 = nI m := by
      rw [e1, hm, l1, pk_sub (by omega)]
      rfl
    subst ex
    have pt := pr_tail hw n (by omega)
    have pt2 := pr_tail hw (n + 1) (by omega)
    rw [hm2] at pt2
    have ep : pr (tMa T) m (n + 1) = tMa T m * pr (tMa T) (m + 1) n := rfl
    have es : tSd T m = pr (tMa T) (m + 1) n := by
      unfold tSd
      rw [show tNf T - (m + 1) = n by omega]
    rw [hm] at g1 pt
    left
    refine ⟨(pI (pA M1 0 45 m (nI (tSd T m))) 0 44 (nI (pr (tMa T) m (n + 1))), nI m - 1), ?_, ?_, a1.tr ((agY.pA M1 45 m _ (by decide)).tr (agY.pI _ 44 _ (by decide))), ?_, ?_⟩
    · show Model_goesThrough_l17 M1 (nI m) = _
      unfold Model_goesThrough_l17
      rw [if_neg (nI_pos (by omega)), mb_in (by omega) (by decide), mb_gd, mb_nm, mb_cl (by omega), g1]
      rw [mb_IA]
      rw [hM1.2.1, l6, pk_mul, nI_add, mb_in (by omega) (by decide), mb_gd, mb_cl (by omega), mb_nm, mb_nm, mb_AA, if_neg (fun z => absurd z.2.1 (by decide)), (hM1.2.2.2.1 m (by omega)).2, g1, pk_mul, ← es, ep, ← es, Nat.mul_comm, sub1]
    · rw [hm2]
    · rw [hm2, mb_II, if_pos ⟨rfl, rfl⟩]
    · intro f hf1 hf2
      rw [hm2] at hf1
      show gA (pA M1 0 45 m (nI (tSd T m))) 0 45 f = _
      rw [mb_AA]
      by_cases e : f = m
      · rw [if_pos ⟨rfl, rfl, e⟩, e]
      · rw [if_neg (fun z => e z.2.2)]
        exact s1 f (by omega) hf2
  · intro q hI
    obtain ⟨M1, x1⟩ := q
    obtain ⟨e1, a1, g1, s1⟩ := hI
    dsimp only at e1 a1 g1 s1
    rw [Nat.sub_self] at e1 g1 s1
    refine ⟨M1, ?_, a1, g1, fun f hf => s1 f (by omega) hf⟩
    show Model_goesThrough_l17 M1 x1 = _
    unfold Model_goesThrough_l17
    rw [e1, if_pos (by decide)]
theorem m_marks {lv : Nat} {T : Tx} {M : St} (hw : wfT T) (h : MT lv T M) (hh : HO lv T M) (hd : SD T M) (h44 : gI M 0 44 = nI (tIn T)) : ∃ M', wh (un2 Model_goesThrough_l62) (M, (0 : Int32)) = some M' ∧ agY [] [46, 47, 48, 49, 51] M M' ∧ BT T M' := by
  have n1 := hw.2.2.1
  have key := wh_ix (f := un2 Model_goesThrough_l62) (s := (M, (0 : Int32))) (tIn T) (fun i q => q.2 = nI i ∧ agY [] [46, 47, 48, 49, 51] M q.1 ∧ ∀ j, j < i → gA q.1 0 46 j = nI (bN T 0 j) ∧ gA q.1 0 47 j = nI (bN T 1 j) ∧ gA q.1 0 48 j = nI (bN T 2 j)) (fun M' => agY [] [46, 47, 48, 49, 51] M M' ∧ BT T M') ⟨rfl, agY.rf M, fun j hj => by omega⟩ ?_ ?_
  · exact key
  · intro i q hi hI
    obtain ⟨M1, x1⟩ := q
    obtain ⟨e1, a1, s1⟩ := hI
    dsimp only at e1 a1 s1
    subst e1
    have aT1 : agT lv M M1 := a1.toT (by decide) (by decide) lv
    have hM1 := h.ag hw aT1
    obtain ⟨M2, h2, a2, v2⟩ := m_looksAt hw hM1 (hd.ag a1 (by decide)) (show i < 32768 by omega)
    have aT2 : agT lv M M2 := aT1.tr (a2.toT (by decide) lv)
    obtain ⟨M3, h3, a3⟩ := m_bitsOf hw (h.ag hw aT2) (hh.ag aT2) (s := 0) (by decide) v2
    have aT3 : agT lv M M3 := aT2.tr (a3.toT (by decide) lv)
    have aT4 : agT lv M (pA M3 0 46 i (nI (bN T 0 i))) := aT3.tr ((agX.put M3 46 i _ (L := [46]) (by decide)).toT (by decide) lv)
    have v4 : ∀ f, f < tNf T → gA (pA M3 0 46 i (nI (bN T 0 i))) 0 49 f = tEv T i f := fun f hf => by
      rw [mb_AA, if_neg (fun z => absurd z.2.1 (by decide)), a3.2.2.2 49 (by decide)]
      exact v2 f hf
    obtain ⟨M5, h5, a5⟩ := m_bitsOf hw (h.ag hw aT4) (hh.ag aT4) (s := 1) (by decide) v4
    have aT5 : agT lv M M5 := aT4.tr (a5.toT (by decide) lv)
    have aT6 : agT lv M (pA M5 0 47 i (nI (bN T 1 i))) := aT5.tr ((agX.put M5 47 i _ (L := [47]) (by decide)).toT (by decide) lv)
    have v6 : ∀ f, f < tNf T → gA (pA M5 0 47 i (nI (bN T 1 i))) 0 49 f = tEv T i f := fun f hf => by
      rw [mb_AA, if_neg (fun z => absurd z.2.1 (by decide)), a5.2.2.2 49 (by decide)]
      exact v4 f hf
    obtain ⟨M7, h7, a7⟩ := m_bitsOf hw (h.ag hw aT6) (hh.ag aT6) (s := 2) (by decide) v6
    have w2 : agY [] [46, 47, 48, 49, 51] M1 M2 := a2.Y.wk (by decide) (by decide)
    have w3 : agY [] [46, 47, 48, 49, 51] M2 M3 := a3.Y.wk (by decide) (by decide)
    have w4 : agY [] [46, 47, 48, 49, 51] M3 (pA M3 0 46 i (nI (bN T 0 i))) := agY.pA M3 46 i _ (by decide)
    have w5 : agY [] [46, 47, 48, 49, 51] (pA M3 0 46 i (nI (bN T 0 i))) M5 := a5.Y.wk (by decide) (by decide)
    have w6 : agY [] [46, 47, 48, 49, 51] M5 (pA M5 0 47 i (nI (bN T 1 i))) := agY.pA M5 47 i _ (by decide)
    have w7 : agY [] [46, 47, 48, 49, 51] (pA M5 0 47 i (nI (bN T 1 i))) M7 := a7.Y.wk (by decide) (by decide)
    have w8 : agY [] [46, 47, 48, 49, 51] M7 (pA M7 0 48 i (nI (bN T 2 i))) := agY.pA M7 48 i _ (by decide)
    left
    refine ⟨(pA M7 0 48 i (nI (bN T 2 i)), nI (i + 1)), ?_, rfl, a1.tr (w2.tr (w3.tr (w4.tr (w5.tr (w6.tr (w7.tr w8)))))), ?_⟩
    · show Model_goesThrough_l62 M1 (nI i) = _
      unfold Model_goesThrough_l62
      have g44 : gI M1 0 44 = nI (tIn T) := by rw [a1.1 44 (by decide)]; exact h44
      rw [g44, if_neg (by rw [mb_le (by omega) (by omega)]; omega), h2, mb_bd, show f_Model_bitsOf M2 0 = some (nI (bN T 0 i), M3) from h3, mb_bd2, mb_in (by omega) (by decide), mb_gd, mb_nm, mb_cl (by omega), show f_Model_bitsOf (pA M3 0 46 i (nI (bN T 0 i))) 1 = some (nI (bN T 1 i), M5) from h5, mb_bd2, mb_gd, mb_nm, show f_Model_bitsOf (pA M5 0 47 i (nI (bN T 1 i))) 2 = some (nI (bN T 2 i), M7) from h7, mb_bd2, mb_gd, mb_nm, mb_nm, nI_1]
    · intro j hj
      have r46 : gA (pA M7 0 48 i (nI (bN T 2 i))) 0 46 j = gA (pA M3 0 46 i (nI (bN T 0 i))) 0 46 j := by
        rw [mb_AA, if_neg (fun z => absurd z.2.1 (by decide)), a7.2.2.2 46 (by decide), mb_AA, if_neg (fun z => absurd z.2.1 (by decide)), a5.2.2.2 46 (by decide)]
      have r47 : gA (pA M7 0 48 i (nI (bN T 2 i))) 0 47 j = gA (pA M5 0 47 i (nI (bN T 1 i))) 0 47 j := by
        rw [mb_AA, if_neg (fun z => absurd z.2.1 (by decide)), a7.2.2.2 47 (by decide)]
      rw [r46, r47, mb_AA, mb_AA, mb_AA]
      by_cases e : j = i
      · rw [if_pos ⟨rfl, rfl, e⟩, if_pos ⟨rfl, rfl, e⟩, if_pos ⟨rfl, rfl, e⟩, e]
        exact ⟨rfl, rfl, rfl⟩
      · rw [if_neg (fun z => e z.2.2), if_neg (fun z => e z.2.2), if_neg (fun z => e z.2.2)]
        obtain ⟨o1, o2, o3⟩ := s1 j (by omega)
        refine ⟨?_, ?_, ?_⟩
        · rw [a3.2.2.2 46 (by decide), a2.2.2.2 46 (by decide)]; exact o1
        · rw [a5.2.2.2 47 (by decide), mb_AA, if_neg (fun z => absurd z.2.1 (by decide)), a3.2.2.2 47 (by decide), a2.2.2.2 47 (by decide)]; exact o2
        · rw [a7.2.2.2 48 (by decide), mb_AA, if_neg (fun z => absurd z.2.1 (by decide)), a5.2.2.2 48 (by decide), mb_AA, if_neg (fun z => absurd z.2.1 (by decide)), a3.2.2.2 48 (by decide), a2.2.2.2 48 (by decide)]; exact o3
  · intro q hI
    obtain ⟨M1, x1⟩ := q
    obtain ⟨e1, a1, s1⟩ := hI
    dsimp only at e1 a1 s1
    subst e1
    have g44 : gI M1 0 44 = nI (tIn T) := by rw [a1.1 44 (by decide)]; exact h44
    refine ⟨M1, ?_, a1, g44, s1⟩
    show Model_goesThrough_l62 M1 (nI (tIn T)) = _
    unfold Model_goesThrough_l62
    rw [g44, if_pos (by rw [mb_le (by omega) (by omega)]; omega)]
theorem m_goesThrough {lv : Nat} {T : Tx} {M : St} (hw : wfT T) (h : MT lv T M) (hh : HO lv T M) (ht : TE lv T M) {on : Nat} (ho : ON T on M) : ∃ M', f_Model_goesThrough M = some M' ∧ agY [44, 53, 54, 57] [45, 46, 47, 48, 49, 51, 55, 56] M M' ∧ BT T M' ∧ SD T M' ∧ SE T on M' := by
  have n6 := hw.1
  have hlv := h.1
  have a0 : agY [44, 53, 54, 57] [45, 46, 47, 48, 49, 51, 55, 56] M (pI M 0 44 1) := agY.pI M 44 _ (by decide)
  have aT0 := a0.toT (by decide) (by decide) lv
  have hM0 := h.ag hw aT0
  obtain ⟨M1, h1, a1, g1, d1⟩ := m_strides hw hM0 (by rw [mb_II, if_pos ⟨rfl, rfl⟩])
  have a1' : agY [44, 53, 54, 57] [45, 46, 47, 48, 49, 51, 55, 56] (pI M 0 44 1) M1 := a1.wk (by decide) (by decide)
  have aT1 : agT lv M M1 := aT0.tr (a1.toT (by decide) (by decide) lv)
  obtain ⟨M2, h2, a2, b2⟩ := m_marks hw (h.ag hw aT1) (hh.ag aT1) d1 g1
  have a2' : agY [44, 53, 54, 57] [45, 46, 47, 48, 49, 51, 55, 56] M1 M2 := a2.wk (by decide) (by decide)
  have aT2 : agT lv M M2 := aT1.tr (a2.toT (by decide) (by decide) lv)
  have d2 : SD T M2 := d1.ag a2 (by decide)
  obtain ⟨M3, h3, a3, s3⟩ := m_settles hw (h.ag hw aT2) (hh.ag aT2) (ht.ag aT2) d2 b2 (((ho.ag a0 (by decide)).ag a1' (by decide)).ag a2' (by decide))
  have a3' : agY [44, 53, 54, 57] [45, 46, 47, 48, 49, 51, 55, 56] M2 M3 := a3.wk (by decide) (by decide)
  refine ⟨M3, ?_, a0.tr (a1'.tr (a2'.tr a3')), b2.ag a3 (by decide) ⟨by decide, by decide, by decide⟩, d2.ag a3 (by decide), s3⟩
  unfold f_Model_goesThrough
  rw [mb_nm, hM0.2.1, mb_in (by omega) (by decide), mb_gd, mb_cl (by omega), hM0.2.2.1, mb_nm, h1, mb_bd, h2, mb_bd, h3, mb_bd]
