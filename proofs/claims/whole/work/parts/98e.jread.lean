/-! both read all tells; what stands ahead of the first -/
variable {v : Nat → Nat} {n lv : Nat} {S0 S M0 M M' : St} {T : Tx} {nN : Nat → List Nat} {pd mf mp cz ec lc lo k st f p : Nat}
theorem j_tell (h0 : TK0 v n lv M0) (hJ : JT v n lv S0 M0 k T nN pd mf mp cz ec lc S M) (hz : ¬ tK v n k = 0) : ∃ M', f_Model_tell M = some M' ∧ JO v n lv S0 M0 k M' := by
  have hR := hJ.2.1
  have hk := hR.1.2.2.2.1
  have i14 : f_Model_is M 20 = some (b2i (Nat.beq (tK v n k) 14)) := r_is hR.1 h0 (x := 14) (by decide)
  have i17 : f_Model_is M 23 = some (b2i (Nat.beq (tK v n k) 17)) := r_is hR.1 h0 (x := 17) (by decide)
  have i18 : f_Model_is M 24 = some (b2i (Nat.beq (tK v n k) 18)) := r_is hR.1 h0 (x := 18) (by decide)
  have i19 : f_Model_is M 25 = some (b2i (Nat.beq (tK v n k) 19)) := r_is hR.1 h0 (x := 19) (by decide)
  have i20 : f_Model_is M 26 = some (b2i (Nat.beq (tK v n k) 20)) := r_is hR.1 h0 (x := 20) (by decide)
  have i21 : f_Model_is M 27 = some (b2i (Nat.beq (tK v n k) 21)) := r_is hR.1 h0 (x := 21) (by decide)
  unfold f_Model_tell
  rw [i14, mb_bd]
  by_cases c14 : tK v n k = 14
  · rw [c14, Nat.beq_refl, if_neg (by decide)]
    obtain ⟨M1, g1, o1⟩ := j_field h0 hJ c14
    rw [g1, mb_bd]
    exact ⟨M1, rfl, o1⟩
  rw [beq_f c14, if_pos (by rfl), i17, mb_bd]
  by_cases c17 : tK v n k = 17
  · rw [c17, Nat.beq_refl, if_neg (by decide)]
    exact j_tellc (so := 0) h0 (by decide) hJ c17
  rw [beq_f c17, if_pos (by rfl), i18, mb_bd]
  by_cases c18 : tK v n k = 18
  · rw [c18, Nat.beq_refl, if_neg (by decide)]
    exact j_tellc (so := 1) h0 (by decide) hJ c18
  rw [beq_f c18, if_pos (by rfl), i19, mb_bd]
  by_cases c19 : tK v n k = 19
  · rw [c19, Nat.beq_refl, if_neg (by decide)]
    exact j_tellc (so := 2) h0 (by decide) hJ c19
  rw [beq_f c19, if_pos (by rfl), i20, mb_bd]
  by_cases c20 : tK v n k = 20
  · rw [c20, Nat.beq_refl, if_neg (by decide)]
    exact j_tellc (so := 3) h0 (by decide) hJ c20
  rw [beq_f c20, if_pos (by rfl), i21, mb_bd]
  by_cases c21 : tK v n k = 21
  · rw [c21, Nat.beq_refl, if_neg (by decide)]
    exact j_tellc (so := 4) h0 (by decide) hJ c21
  rw [beq_f c21, if_pos (by rfl)]
  obtain ⟨M1, g1, f1, -⟩ := r_fail hR.1 h0 (f := 1) (Or.inl rfl)
  unfold Model_tell_j80
  rw [if_pos rfl, show f_Model_fail M 1 = some M1 from g1, mb_bd]
  refine ⟨M1, ?_, Or.inl ⟨1, _, Or.inl (cs_notell hJ.1 hk ⟨hz, c14, fun z => by omega⟩), f1⟩⟩
  unfold Model_tell_j117
  rw [if_neg f1.nz.2]
theorem j_tells (h0 : TK0 v n lv M0) : ∀ (d : Nat) {k : Nat} {T : Tx} {nN : Nat → List Nat} {pd mf mp cz ec lc : Nat} {S M : St}, 401 - k ≤ d → JT v n lv S0 M0 k T nN pd mf mp cz ec lc S M → ∃ M', wh Model_read_l139 M = some M' ∧ (FF S0 lv M0 M' ∨ ∃ k' T' nN' pd' mf' mp' cz' ec' lc' S', tK v n k' = 0 ∧ JT v n lv S0 M0 k' T' nN' pd' mf' mp' cz' ec' lc' S' M')
  | 0, k, _, _, _, _, _, _, _, _, _, _, hd, hJ => by
    have := hJ.2.1.1.2.2.2.1
    omega
  | d + 1, k, T, nN, pd, mf, mp, cz, ec, lc, S, M, hd, hJ => by
    have hR := hJ.2.1
    have his : f_Model_is M 0 = some (b2i (Nat.beq (tK v n k) 0)) := r_is hR.1 h0 (x := 0) (by decide)
    by_cases c : tK v n k = 0
    · refine ⟨M, wh_inr ?_, Or.inr ⟨k, T, nN, pd, mf, mp, cz, ec, lc, S, c, hJ⟩⟩
      unfold Model_read_l139
      rw [if_pos hR.1.2.1, his, mb_bd, c, Nat.beq_refl, if_neg (by decide)]
    · obtain ⟨M1, g1, o1⟩ := j_tell h0 hJ c
      have st1 : Model_read_l139 M = some (.inl M1) := by
        unfold Model_read_l139
        rw [if_pos hR.1.2.1, his, mb_bd, beq_f c, if_pos (by rfl), g1, mb_bd]
      rcases o1 with ⟨f, p, fo, fm⟩ | ⟨k1, T1, nN1, pd1, mf1, mp1, cz1, ec1, lc1, S1, hk1, hJ1⟩
      · refine ⟨M1, ?_, Or.inl ⟨f, p, fo, fm⟩⟩
        rw [wh_inl st1]
        refine wh_inr ?_
        unfold Model_read_l139
        rw [if_neg fm.nz.1]
      · obtain ⟨M2, g2, o2⟩ := j_tells h0 d (by omega) hJ1
        exact ⟨M2, by rw [wh_inl st1]; exact g2, o2⟩
/-! an empty text -/
def tx0 : Tx := (0, fun _ => 0, fun _ => 0, fun _ => 0, fun _ _ _ _ => true, fun _ => 0, fun _ _ => 0)
def nn0 : Nat → List Nat := fun _ => []
def prI : List (Nat × Nat) := [(1, 3), (1, 4), (1, 5), (1, 7), (1, 12), (1, 13), (2, 1), (2, 2), (2, 3), (2, 4), (2, 5), (3, 10), (3, 11), (3, 12)]
def prA : List (Nat × Nat) := [(3, 4), (3, 7), (3, 8), (3, 9)]
theorem c_pre {tn : Nat} {tb : Nat → Int32} {pl : Int32} (hT : CT tn tb pl S) (hv : ∀ j, j < tn → tb j = sx (v j) ∧ v j < 256) : ∃ S0, f_Reader_understand S (gI S 0 6) = bd (Wc S0 0) (fun S_28 => Reader_understand_j138 S_28) ∧ agC prI prA [] S S0 ∧ CPz v tn S0 0 0 (tNt tx0 4) tx0 nn0 1 0 0 0 S0 ∧ gI S0 1 3 = -1 := by
  obtain ⟨t1, t2, t3, t4⟩ := hT
  obtain ⟨S9, eS9⟩ : ∃ S9, S9 = pI (pI (pI (pI (pI (pI (pI (pI (pI S 1 4 0) 1 3 (-1)) 1 5 0) 1 7 0) 1 12 0) 1 13 0) 3 10 0) 3 11 1) 3 12 0 := ⟨_, rfl⟩
  have a9 : agC prI prA [] S S9 := by
    rw [eS9]
    exact ((((((((agC.pI S 1 4 _ (by decide)).tr (agC.pI _ 1 3 _ (by decide))).tr (agC.pI _ 1 5 _ (by decide))).tr (agC.pI _ 1 7 _ (by decide))).tr (agC.pI _ 1 12 _ (by decide))).tr (agC.pI _ 1 13 _ (by decide))).tr (agC.pI _ 3 10 _ (by decide))).tr (agC.pI _ 3 11 _ (by decide))).tr (agC.pI _ 3 12 _ (by decide))
  obtain ⟨Sa, ga, aa, fa⟩ := c_fill (o := 3) (k := 4) (n := 6) (S := S9) 0 (fun _ _ => rfl) (by decide)
  obtain ⟨Sb, gb, ab, fb⟩ := c_fill (o := 3) (k := 7) (n := 48) (S := Sa) 0 (fun _ _ => rfl) (by decide)
  obtain ⟨Sc, gc, ac, fc⟩ := c_fill (o := 3) (k := 8) (n := 48) (S := Sb) 0 (fun _ _ => rfl) (by decide)
  obtain ⟨Sd, gd', ad, fd⟩ := c_fill (o := 3) (k := 9) (n := 48) (S := Sc) (-1) (fun _ _ => rfl) (by decide)
  have hclear : f_Book_clear (pI (pI (pI (pI (pI (pI S 1 4 0) 1 3 (-1)) 1 5 0) 1 7 0) 1 12 0) 1 13 0) = some Sd := by
    unfold f_Book_clear
    rw [mb_nm, mb_nm, mb_nm, ← eS9, ga, mb_bd, gb, mb_bd, gc, mb_bd, gd', mb_bd]
  have a9d : agC [] prA [] S9 Sd := (((aa.wk (by decide) (by decide) (by decide)).tr (ab.wk (by decide) (by decide) (by decide))).tr (ac.wk (by decide) (by decide) (by decide))).tr (ad.wk (by decide) (by decide) (by decide))
  obtain ⟨Se, eSe⟩ : ∃ Se, Se = pI (pI Sd 2 1 (nI tn)) 2 2 0 := ⟨_, rfl⟩
  have ae : agC prI prA [] Sd Se := by
    rw [eSe]
    exact (agC.pI Sd 2 1 _ (by decide)).tr (agC.pI _ 2 2 _ (by decide))
  have aSe : agC prI prA [] S Se := (a9.tr (a9d.wk (by decide) (by decide) (by decide))).tr ae
  have hx : TX v tn Se := ⟨t1, fun j hj => by rw [aSe.2.1 0 0 (by decide), t4 j hj]; exact hv j hj⟩
  obtain ⟨S0, g0, a0, e1, e2, e3, e4, e5⟩ := sc_adv hx (by rw [eSe, gI_n _ _ (fun z => by omega), gI_s]) (p := ps v tn 0) (ps_le 0) (by rw [eSe, gI_s]; rfl)
  have a0c : agC prI prA [] Se S0 := a0.1.wk (by decide) (by decide) (by decide)
  have aI : ∀ o k, ¬ o = 2 → gI S0 o k = gI S9 o k := by
    intro o k ho
    have n1 : (o, k) ∉ scI := by
      intro z
      have : ∀ q ∈ scI, q.1 = 2 := by decide
      exact ho (this _ z)
    rw [a0.i o k n1, eSe, gI_n _ _ (fun z => ho z.1), gI_n _ _ (fun z => ho z.1), a9d.1 o k (by intro z; cases z)]
  have aA : ∀ k, gA S0 3 k = gA Sd 3 k := by
    intro k
    rw [a0.a 3 k (by intro z; cases z), eSe]
    rfl
  refine ⟨S0, ?_, aSe.tr a0c, ?_, ?_⟩
  · unfold f_Reader_understand
    rw [mb_nm, mb_nm, mb_nm, mb_nm, mb_nm, mb_nm, hclear, mb_bd]
    unfold f_Scanner_begin
    have hm : (if (0 : Int32) < (if (nI 2000) < (gI S 0 6) then (nI 2000) else (gI S 0 6)) then (if (nI 2000) < (gI S 0 6) then (nI 2000) else (gI S 0 6)) else (0 : Int32)) = nI tn := by
      rw [t2, if_neg (show ¬ nI 2000 < nI tn by rw [mb_lt (by omega) (by omega)]; omega)]
      by_cases z : (0 : Int32) < nI tn
      · rw [if_pos z]
      · rw [if_neg z]
        rw [l0, mb_lt (by omega) (by omega)] at z
        have : tn = 0 := by omega
        rw [this]
        rfl
    rw [hm, mb_nm, mb_nm, ← eSe, g0, mb_bd, mb_bd]
    rfl
  · refine ⟨⟨rfl, agG.rf S0, ⟨hx.1, fun j hj => by rw [a0.a 0 0 (by decide)]; exact hx.2 j hj⟩, by rw [a0.i 2 1 (by decide), eSe, gI_n _ _ (fun z => by omega), gI_s], e3, e1, e2, e4, e5⟩, by rw [aI 1 7 (by decide), eS9]; simp only [mb_II]; rfl, by rw [aI 1 4 (by decide), eS9]; simp only [mb_II]; rfl, by rw [aI 1 13 (by decide), eS9]; simp only [mb_II]; rfl, by rw [aI 1 12 (by decide), eS9]; simp only [mb_II]; rfl, ⟨by rw [aI 3 10 (by decide), eS9]; simp only [mb_II]; rfl, by rw [aI 3 11 (by decide), eS9]; simp only [mb_II]; rfl, by rw [aI 1 5 (by decide), eS9]; simp only [mb_II]; rfl, fun z => absurd rfl z, fun f hf => absurd hf (Nat.not_lt_zero f), fun k hk => absurd hk (Nat.not_lt_zero k)⟩, fun s hs => ?_, by rw [aI 3 12 (by decide), eS9]; simp only [mb_II]; rfl, fun k _ hk => ?_, fun _ _ => ⟨(fun am z => by cases z), fun s k _ hk => absurd hk (Nat.not_lt_zero k), fun k hk => absurd hk (Nat.not_lt_zero k)⟩⟩
    · rw [aA 4, ad.2.1 3 4 (by decide), ac.2.1 3 4 (by decide), ab.2.1 3 4 (by decide), fa s (by omega)]
      rfl
    · refine ⟨?_, ?_, ?_⟩
      · rw [aA 7, ad.2.1 3 7 (by decide), ac.2.1 3 7 (by decide), fb _ (by omega)]
      · rw [aA 8, ad.2.1 3 8 (by decide), fc _ (by omega)]
      · rw [aA 9, fd _ (by omega)]
  · rw [aI 1 3 (by decide), eS9]
    simp only [mb_II]
    rfl
/-! the reference -/
def pmI : List Nat := [2, 4, 10, 11, 12, 13, 15, 19, 38]
def pmA : List Nat := [3, 5, 6, 7, 20, 25, 31]
theorem r_pre {tn : Nat} {tb : Nat → Int32} (hlv : lv < 2) (h18 : gI M 0 18 = nI lv) (hT : TP tn tb M) (hK : ∀ k, k < 13 → gB M 0 9 k = keyL.getD k 0) (hv : ∀ j, j < tn → tb j = sx (v j) ∧ v j < 256) : ∃ M0, f_Model_read M = bd (wh Model_read_l139 M0) (fun S_35 => Model_read_j161 S_35) ∧ agT lv M M0 ∧ agZ pmI pmA [8] M M0 ∧ gI M0 0 2 = 0 ∧ TK0 v tn lv M0 ∧ RB v tn lv M0 0 tx0 nn0 1 0 0 0 0 M0 := by
  obtain ⟨t1, t2, t3⟩ := hT
  obtain ⟨M1, eM1⟩ : ∃ M1, M1 = pI M 0 4 (nI tn) := ⟨_, rfl⟩
  have a1 : agZ [4] [] [] M M1 := by rw [eM1]; exact agZ.pI M 4 _ (by decide)
  have e4 : gI M1 0 4 = nI tn := by rw [eM1, gI_s]
  have cp : ∃ M7, wh (un2 Model_read_l10) (M1, (0 : Int32)) = some M7 ∧ agZ [] [3] [] M1 M7 ∧ ∀ j, j < tn → gA M7 0 3 j = sx (v j) := by
    refine wh_ix (f := un2 Model_read_l10) tn (fun i q => q.2 = nI i ∧ agZ [] [3] [] M1 q.1 ∧ ∀ j, j < i → gA q.1 0 3 j = sx (v j)) (fun M7 => agZ [] [3] [] M1 M7 ∧ ∀ j, j < tn → gA M7 0 3 j = sx (v j)) ⟨rfl, agZ.rf M1, fun j hj => absurd hj (Nat.not_lt_zero j)⟩ ?_ ?_
    · intro i q hi hI
      obtain ⟨Mx, x⟩ := q
      obtain ⟨i1, i2, i3⟩ := hI
      dsimp only at i1 i2 i3
      subst i1
      left
      have e4' : gI Mx 0 4 = nI tn := by rw [i2.1 4 (by decide)]; exact e4
      have e1' : gA Mx 0 1 i = sx (v i) := by rw [i2.2.1 1 (by decide), a1.2.1 1 (by decide), t3 i hi]; exact (hv i hi).1
      refine ⟨(pA Mx 0 3 i (sx (v i)), nI (i + 1)), ?_, rfl, i2.tr (agZ.pA Mx 3 _ _ (by decide)), fun j hj => ?_⟩
      · show Model_read_l10 Mx (nI i) = _
        unfold Model_read_l10
        rw [e4', if_neg (by rw [mb_le (by omega) (by omega)]; omega), mb_in (by omega) (by decide), mb_gd, mb_gd, mb_nm, mb_cl (by omega), e1', sx_nar _ (hv i hi).2, mb_nm, nI_1]
      · show gA (pA Mx 0 3 i (sx (v i))) 0 3 j = _
        by_cases e : j = i
        · rw [e, gA_s]
        · rw [gA_n _ _ (fun z => e z.2.2)]; exact i3 j (by omega)
    · intro q hI
      obtain ⟨Mx, x⟩ := q
      obtain ⟨i1, i2, i3⟩ := hI
      dsimp only at i1 i2 i3
      subst i1
      refine ⟨Mx, ?_, i2, i3⟩
      show Model_read_l10 Mx (nI tn) = _
      unfold Model_read_l10
      rw [i2.1 4 (by decide), e4, if_pos (by rw [mb_le (by omega) (by omega)]; omega)]
  obtain ⟨M7, g7, a7, f7⟩ := cp
  obtain ⟨M9, eM9⟩ : ∃ M9, M9 = pI M7 0 2 0 := ⟨_, rfl⟩
  have a9 : agZ [2] [] [] M7 M9 := by rw [eM9]; exact agZ.pI M7 2 _ (by decide)
  have a19 : agZ [2, 4] [3] [] M M9 := ((a1.wk (by decide) (by decide) (by decide)).tr (a7.wk (by decide) (by decide) (by decide))).tr (a9.wk (by decide) (by decide) (by decide))
  obtain ⟨Mc, gc, ac, fc⟩ := m_cut (v := v) (n := tn) (M := M9) ⟨t1, by rw [a9.1 4 (by decide), a7.1 4 (by decide)]; exact e4, fun j hj => ⟨by rw [a9.2.1 3 (by decide)]; exact f7 j hj, (hv j hj).2⟩⟩ (fun k hk => by rw [a19.2.2 9 (by decide)]; exact hK k hk)
  have h18c : gI Mc 0 18 = nI lv := by rw [ac.1 18 (by decide), a19.1 18 (by decide)]; exact h18
  obtain ⟨Md, eMd⟩ : ∃ Md, Md = pI (pI (pI (pI (pI Mc 0 11 0) 0 12 0) 0 13 0) 0 15 0) 0 19 (nI (1 - lv)) := ⟨_, rfl⟩
  have ad : agZ [11, 12, 13, 15, 19] [] [] Mc Md := by
    rw [eMd]
    exact ((((agZ.pI Mc 11 _ (by decide)).tr (agZ.pI _ 12 _ (by decide))).tr (agZ.pI _ 13 _ (by decide))).tr (agZ.pI _ 15 _ (by decide))).tr (agZ.pI _ 19 _ (by decide))
  obtain ⟨Me, eMe⟩ : ∃ Me, Me = pL (pA Md 0 20 (1 - lv) 0) 0 24 1 := ⟨_, rfl⟩
  have frE : FR lv Md Me := by
    rw [eMe]
    exact (FR.zA hlv Md 20 1 0 _ (by decide) (by decide) (by decide) (by omega)).tr (FR.zL lv _ 24 _)
  have aE : agZ [] [20] [] Md Me := by
    rw [eMe]
    exact (agZ.pA Md 20 _ _ (by decide)).tr ⟨fun _ _ => rfl, fun _ _ => rfl, fun _ _ => rfl⟩
  have e19 : gI Me 0 19 = nI (1 - lv) := by rw [aE.1 19 (by decide), eMd, gI_s]
  have cz' : ∃ Mf, wh (un2 Model_read_l92) (Me, (0 : Int32)) = some Mf ∧ agZ [] [25] [] Me Mf ∧ gL Mf = gL Me ∧ FR lv Me Mf ∧ ∀ s, s < 5 → gA Mf 0 25 (5 * (1 - lv) + s) = 0 := by
    refine wh_ix (f := un2 Model_read_l92) 5 (fun i q => q.2 = nI i ∧ agZ [] [25] [] Me q.1 ∧ gL q.1 = gL Me ∧ FR lv Me q.1 ∧ ∀ s, s < i → gA q.1 0 25 (5 * (1 - lv) + s) = 0) (fun Mf => agZ [] [25] [] Me Mf ∧ gL Mf = gL Me ∧ FR lv Me Mf ∧ ∀ s, s < 5 → gA Mf 0 25 (5 * (1 - lv) + s) = 0) ⟨rfl, agZ.rf Me, rfl, FR.rf lv Me, fun j hj => absurd hj (Nat.not_lt_zero j)⟩ ?_ ?_
    · intro i q hi hI
      obtain ⟨Mx, x⟩ := q
      obtain ⟨i1, i2, i3, i4, i5⟩ := hI
      dsimp only at i1 i2 i3 i4 i5
      subst i1
      left
      refine ⟨(pA Mx 0 25 (5 * (1 - lv) + i) 0, nI (i + 1)), ?_, rfl, i2.tr (agZ.pA Mx 25 _ _ (by decide)), i3, i4.tr (FR.zA hlv Mx 25 5 i _ (by decide) (by decide) hi rfl), fun s hs => ?_⟩
      · show Model_read_l92 Mx (nI i) = _
        unfold Model_read_l92
        rw [l5, if_neg (by rw [mb_le (by omega) (by omega)]; omega), i2.1 19 (by decide), e19, pk_mul, nI_add, mb_in (by omega) (by decide), mb_gd, mb_nm, mb_cl (by omega), mb_nm, nI_1]
      · show gA (pA Mx 0 25 (5 * (1 - lv) + i) 0) 0 25 (5 * (1 - lv) + s) = 0
        by_cases e : s = i
        · rw [e, gA_s]
        · rw [gA_n _ _ (fun z => by omega)]; exact i5 s (by omega)
    · intro q hI
      obtain ⟨Mx, x⟩ := q
      obtain ⟨i1, i2⟩ := hI
      dsimp only at i1 i2
      subst i1
      refine ⟨Mx, ?_, i2⟩
      show Model_read_l92 Mx (nI 5) = _
      unfold Model_read_l92
      rw [if_pos (by decide)]
  obtain ⟨Mf, gf, af, lf, frF, ff⟩ := cz'
  obtain ⟨M0, eM0⟩ : ∃ M0, M0 = pI (pA Mf 0 31 (1 - lv) 0) 0 38 (nI (500 * (1 - lv))) := ⟨_, rfl⟩
  have a0 : agZ [38] [31] [] Mf M0 := by
    rw [eM0]
    exact (agZ.pA Mf 31 _ _ (by decide)).tr (agZ.pI _ 38 _ (by decide))
  have fr0 : FR lv Mf M0 := by
    rw [eM0]
    exact (FR.zA2 lv Mf 31 _ _ (Or.inl rfl)).tr (FR.zI lv _ 38 _ (by decide) (by decide))
  have aD0 : agZ [38] [20, 25, 31] [] Md M0 := ((aE.wk (by decide) (by decide) (by decide)).tr (af.wk (by decide) (by decide) (by decide))).tr (a0.wk (by decide) (by decide) (by decide))
  have aC0 : agZ [11, 12, 13, 15, 19, 38] [20, 25, 31] [] Mc M0 := (ad.wk (by decide) (by decide) (by decide)).tr (aD0.wk (by decide) (by decide) (by decide))
  refine ⟨M0, ?_, ?_, ?_, ?_, ⟨hlv, t1, ?_, ?_⟩, ?_⟩
  · unfold f_Model_read
    have h18d : gI (pI (pI (pI (pI Mc 0 11 0) 0 12 0) 0 13 0) 0 15 0) 0 18 = nI lv := by
      rw [gI_n _ _ (fun z => by omega), gI_n _ _ (fun z => by omega), gI_n _ _ (fun z => by omega), gI_n _ _ (fun z => by omega)]
      exact h18c
    have hd1 : (1 : Int32) - nI lv = nI (1 - lv) := by rw [l1, pk_sub (by omega)]
    rw [mb_nm, t2, ← eM1, g7, mb_bd, mb_nm, ← eM9, gc, mb_bd, mb_nm, mb_nm, mb_nm, mb_nm, mb_nm, h18d, hd1, ← eMd, show gI Md 0 19 = nI (1 - lv) by rw [eMd, gI_s], mb_in (by omega) (by decide), mb_gd, mb_nm, mb_nm, mb_cl (by omega), ← eMe, gf, mb_bd, show gI Mf 0 19 = nI (1 - lv) by rw [af.1 19 (by decide)]; exact e19, mb_in (by omega) (by decide), mb_gd, mb_nm, mb_nm, mb_cl (by omega), mb_IA, show gI Mf 0 19 = nI (1 - lv) by rw [af.1 19 (by decide)]; exact e19, l500, pk_mul, ← eM0]
  · exact ((a19.toT (by decide) (by decide) lv).tr (ac.toT (by decide) (by decide) lv)).tr ((ad.toT (by decide) (by decide) lv).tr ((frE.2.tr frF.2).tr fr0.2))
  · exact ((a19.wk (by decide) (by decide) (by decide)).tr (ac.wk (by decide) (by decide) (by decide))).tr (aC0.wk (by decide) (by decide) (by decide))
  · rw [aC0.1 2 (by decide), ac.1 2 (by decide), eM9, gI_s]
  · rw [aD0.1 19 (by decide), eMd, gI_s]
  · intro i hi hj
    have := fc i hi hj
    unfold TKS at *
    rw [aC0.2.1 5 (by decide), aC0.2.1 6 (by decide), aC0.2.1 7 (by decide), aC0.2.2 8 (by decide)]
    exact this
  · refine ⟨⟨FR.rf lv M0, ?_, ?_, by decide, fun j hj => absurd hj (Nat.not_lt_zero j)⟩, ?_, by rw [eM0, gI_s]; rfl, by rw [eM0, mb_AI, gA_s]; rfl, ⟨?_, ?_, ?_, fun z => absurd rfl z, fun f hf => absurd hf (Nat.not_lt_zero f), fun s hs => ?_, fun k hk => absurd hk (Nat.not_lt_zero k)⟩, fun _ => ⟨fun s k _ hk => absurd hk (Nat.not_lt_zero k), fun k hk => absurd hk (Nat.not_lt_zero k)⟩⟩
    · rw [aD0.1 13 (by decide), eMd]; simp only [mb_II]; rfl
    · rw [aD0.1 11 (by decide), eMd]; simp only [mb_II]; rfl
    · rw [aD0.1 12 (by decide), eMd]; simp only [mb_II]; rfl
    · rw [a0.2.1 20 (by decide), af.2.1 20 (by decide), eMe]
      show gA (pA Md 0 20 (1 - lv) 0) 0 20 (1 - lv) = _
      rw [gA_s]
      rfl
    · rw [eM0]
      show gL Mf 0 24 = _
      rw [lf, eMe, mb_LL, if_pos ⟨rfl, rfl⟩]
      rfl
    · rw [aD0.1 15 (by decide), eMd]; simp only [mb_II]; rfl
    · rw [a0.2.1 25 (by decide), ff s hs]
      rfl
