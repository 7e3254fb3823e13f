/-! read, on both sides -/
variable {T : Tx} {on tn : Nat} {lg : List Nat} {tb : Nat → Int32} {pl pl' : Int32} {S S0 S1 S' M M0 M1 : St} {v : Nat → Nat} {nN : Nat → List Nat} {pd mf mp cz ec lc lv k f p : Nat}
def keI : List (Nat × Nat) := [(0, 6), (0, 7), (1, 3), (1, 4), (1, 5), (1, 6), (1, 7), (1, 8), (1, 9), (1, 10), (1, 11), (1, 12), (1, 13), (1, 15), (1, 16), (2, 1), (2, 2), (2, 3), (2, 4), (2, 5), (3, 10), (3, 11), (3, 12)]
def keA : List (Nat × Nat) := [(1, 1), (3, 1), (3, 2), (3, 4), (3, 5), (3, 6), (3, 7), (3, 8), (3, 9)]
theorem c_kept (h : cInv T on lg tn tb pl S) (a : agC keI keA [(3, 0)] S S1) (h6 : gI S1 0 6 = 0) (h7 : gI S1 0 7 = pl') : cInv T on lg 0 tb pl' S1 ∧ Ph S ≤ Ph S1 := by
  obtain ⟨hw, hT, hK, hN, hM, hF, hS, hU, hL, hX, hY, hZ, hC⟩ := h
  refine ⟨⟨hw, ⟨by decide, h6, h7, fun j hj => absurd hj (Nat.not_lt_zero j)⟩, hK.ag a (by decide) (by decide), hN.ag a, hM.ag a (by decide) (by decide), hF.ag a (by decide) (by decide), hS.ag a (by decide) (by decide), hU.ag a (by decide) (by decide), hL.ag a (by decide) (by decide), hX.ag a (by decide) (by decide), hY.ag a (by decide) (by decide), hZ.ag a (by decide) (by decide), hC.ag a (by decide) (by decide)⟩, ?_⟩
  unfold Ph
  rw [a.2.2.2]
  exact Nat.le_refl _
theorem CQ.eq {ex : Option Sem} (h : CQ T ex cz S) (e6 : gA S1 3 6 = gA S 3 6) (e7 : gA S1 3 7 = gA S 3 7) (e8 : gA S1 3 8 = gA S 3 8) (e9 : gA S1 3 9 = gA S 3 9) : CQ T ex cz S1 := by
  unfold CQ CG at *
  rw [e6, e7, e8, e9]
  exact h
def RD (S M : St) (tb : Nat → Int32) : Prop := ∃ (r : Int32) (S' M' : St), f_Lots_read S = some (r, S') ∧ f_Model_read M = some (r, M') ∧ (∃ T' on' lg' pl', mInv T' on' lg' 0 tb pl' M' ∧ cInv T' on' lg' 0 tb pl' S') ∧ Ph S ≤ Ph S'
/-- a fault, told alike -/
theorem rd_fault (hM : mInv T on lg tn tb pl M) (hS : cInv T on lg tn tb pl S) (hlv : lv < 2) (h18 : gI M 0 18 = nI lv) (tM : agT lv M M0) (aM : agZ pmI pmA [8] M M0) (h2M : gI M0 0 2 = 0) (fr : FR lv M0 M1) (aS : agC prI prA [] S S0) {Su : St} (hf : ¬ nI f = 0) (hu : f_Reader_understand S (gI S 0 6) = some (nI f, Su)) (h13 : gI Su 1 3 = nI p) (au : agC rdI gdA gdB S0 Su) (hr : f_Model_read M = some (nI f, pI M1 0 17 (nI p))) : RD S M tb := by
  obtain ⟨S', e'⟩ : ∃ S', S' = pI (pI Su 0 6 0) 0 7 (nI p) := ⟨_, rfl⟩
  have a' : agC keI keA [(3, 0)] S S' := by
    rw [e']
    exact ((aS.wk (by decide) (by decide) (by decide)).tr (au.wk (by decide) (by decide) (by decide))).tr ((agC.pI Su 0 6 _ (by decide)).tr (agC.pI _ 0 7 _ (by decide)))
  obtain ⟨k1, k2⟩ := c_kept (pl' := nI p) hS a' (by rw [e', gI_n _ _ (fun z => by omega), gI_s]) (by rw [e', gI_s])
  have t' : agT lv M (pI M1 0 17 (nI p)) := (tM.tr fr.2).tr ⟨gI_n _ _ (fun z => by omega), fun _ _ _ _ => rfl⟩
  have k3 := m_kept (pl' := nI p) (M1 := pI M1 0 17 (nI p)) hM (fun lv' e18 hlv' => by
    have : lv' = lv := by
      rw [h18, mb_eq (by omega) (by omega)] at e18
      exact e18.symm
    rw [this]
    exact t') ((aM.wk (by decide) (by decide) (by decide)).tr ((fr.1.wk (by decide) (by decide) (by decide)).tr (agZ.pI M1 17 _ (by decide)))) (by rw [gI_n _ _ (fun z => by omega), fr.i 2 (by decide)]; exact h2M) (gI_s _ _ _ _)
  refine ⟨nI f, S', pI M1 0 17 (nI p), ?_, hr, ⟨T, on, lg, nI p, k3, k1⟩, k2⟩
  unfold f_Lots_read
  rw [hu, mb_bd2, mb_nm, mb_nm, if_neg hf, gI_n _ _ (fun z => by omega), h13, ← e']
theorem und_f {Su : St} (h4 : ¬ gI Su 1 4 = 0) : Reader_understand_j138 Su = some (gI Su 1 4, Su) := by
  unfold Reader_understand_j138 Reader_understand_j157 Reader_understand_j187 Reader_understand_j201
  rw [if_neg h4, if_neg h4, if_neg h4]
theorem und_157 {Su : St} (h4 : ¬ gI Su 1 4 = 0) : Reader_understand_j157 Su = some (gI Su 1 4, Su) := by
  unfold Reader_understand_j157 Reader_understand_j187 Reader_understand_j201
  rw [if_neg h4, if_neg h4]
theorem rd_all (hM : mInv T on lg tn tb pl M) (hS : cInv T on lg tn tb pl S) (hb : ∀ j, j < tn → ∃ c, c < 256 ∧ tb j = sx c) : RD S M tb := by
  obtain ⟨v, hv⟩ : ∃ v : Nat → Nat, ∀ j, j < tn → tb j = sx (v j) ∧ v j < 256 := by
    refine ⟨fun j => if h : j < tn then Classical.choose (hb j h) else 0, fun j hj => ?_⟩
    have := Classical.choose_spec (hb j hj)
    dsimp only
    rw [dif_pos hj]
    exact ⟨this.2, this.1⟩
  obtain ⟨hw, ⟨lv, m1, m2, m3⟩, m4, m5, m6, m7, m8, m9, m10, m11⟩ := id hM
  obtain ⟨S0, gS, aS, cS, hS13⟩ := c_pre hS.2.1 hv
  obtain ⟨M0, gM, tM, aM, h2M, tk, rb⟩ := r_pre m1.1 m1.2.1 m8 m11.1 hv
  have hJ : JT v tn lv S0 M0 0 tx0 nn0 1 0 0 0 0 0 S0 M0 := ⟨cS, rb, ⟨by decide, fun f hf => absurd hf (Nat.not_lt_zero f), by decide, by decide⟩, ⟨fun _ _ => Nat.zero_le 8, fun k hk => absurd hk (Nat.not_lt_zero k), by decide, fun _ => ⟨fun f hf => absurd hf (Nat.not_lt_zero f), rfl, by decide⟩⟩, Nat.le_refl 0, Nat.le_refl 0, Nat.le_refl 0⟩
  obtain ⟨M1, g1, o1⟩ := j_tells tk 401 (by omega) hJ
  have gM1 : f_Model_read M = Model_read_j161 M1 := by rw [gM, g1, mb_bd]
  rcases o1 with ⟨f, p, fo, fm⟩ | ⟨k, T', nN, pd, mf, mp, cz, ec, lc, Se, hz, hC, hR, hD, hT, hec, hlc, hcz⟩
  · have hf : ¬ nI f = 0 := by rcases fm.2.1 with rfl | rfl <;> decide
    have hr : f_Model_read M = some (nI f, pI M1 0 17 (nI p)) := by
      rw [gM1]
      unfold Model_read_j161 Model_read_j191
      rw [if_neg fm.nz.2, mb_nm, gI_n _ _ (fun z => by omega), if_neg fm.nz.2, fm.2.2.1, fm.2.2.2.1]
    rcases fo with ⟨Su, w1, w2, w3, w4⟩ | ⟨ef, Su, w1, w2, w3, w4, w5⟩
    · exact rd_fault hM hS m1.1 m1.2.1 tM aM h2M fm.1 aS hf (by rw [gS, w1, mb_bd, und_f (by rw [w2]; exact hf), w2]) w3 w4.1 hr
    · subst ef
      obtain ⟨Sv, ev⟩ : ∃ Sv, Sv = pI (pI Su 1 4 1) 1 3 (nI p) := ⟨_, rfl⟩
      have v4 : gI Sv 1 4 = nI 1 := by rw [ev, gI_n _ _ (fun z => by omega), gI_s]; rfl
      refine rd_fault (f := 1) (p := p) (Su := Sv) hM hS m1.1 m1.2.1 tM aM h2M fm.1 aS hf ?_ (by rw [ev, gI_s]) ?_ hr
      · rw [gS, w1, mb_bd]
        unfold Reader_understand_j138 f_Reader_refuse
        rw [if_pos w2, if_neg w3, mb_nm, gI_n _ _ (fun z => by omega), w4, mb_nm, mb_bd, ← ev, und_157 (by rw [v4]; decide), v4]
      · rw [ev]
        exact (w5.1.wk (fun _ z => z) (fun _ z => z) (fun _ z => z)).tr ((agC.pI Su 1 4 _ (by decide)).tr (agC.pI _ 1 3 _ (by decide)))
  · have hk := hR.1.2.2.2.1
    have hW := cl_end hC.1 hk hC.2.2.1 hz
    have a1 : agC rdI gdA gdB S0 Se := hC.1.2.1.1.wk (by decide) (by decide) (by decide)
    obtain ⟨c4, c13, c12, cD, cT, cW⟩ := hC.2.2
    have e13 : gI M1 0 13 = 0 := hR.1.2.1
    have e15 : gI M1 0 15 = nI mf := hR.2.2.2.2.1.2.2.1
    have hm6 := hD.2.2.1
    have u1 : f_Reader_understand S (gI S 0 6) = Reader_understand_j157 Se := by
      rw [gS, hW, mb_bd]
      unfold Reader_understand_j138
      rw [if_pos c4, hC.2.1, if_pos (by rfl)]
    by_cases hmf : mf = 0
    · subst hmf
      have hQ := cW.2.2 rfl (by omega)
      have hwf := wf_of hQ hT hD.1
      obtain ⟨S2, g2, a2, s2⟩ := c_strides hwf cD.1 (fun f hf => ⟨(cD.2.2.2.2.1 f hf).2.1, (cD.2.2.2.2.1 f hf).2.2 rfl⟩)
      have u2 : f_Reader_understand S (gI S 0 6) = some (0, S2) := by
        rw [u1]
        unfold Reader_understand_j157 Reader_understand_j187 Reader_understand_j201
        rw [if_pos c4, cD.2.2.1, if_pos (by rfl), if_pos c4, g2, mb_bd, a2.1 1 4 (by decide), c4]
      have hN2 : CN S2 := ((hS.2.2.2.1.ag aS).ag a1).ag a2
      have h13 : gI S2 1 3 = -1 := by rw [a2.1 1 3 (by decide), hC.1.2.1.i 1 3 (by decide)]; exact hS13
      have hD2 : CDt T' nN pd 0 mp S2 := by
        unfold CDt at *
        rw [a2.1 3 10 (by decide), a2.1 3 11 (by decide), a2.1 1 5 (by decide), a2.1 1 6 (by decide), a2.2.1 3 1 (by decide), a2.2.1 3 2 (by decide), a2.2.1 3 5 (by decide), a2.2.2.1 3 0 (by decide)]
        exact cD
      have hT2 : TLd (tNt T') S2 := by
        unfold TLd at *
        rw [a2.2.1 3 4 (by decide)]
        exact cT
      have hpd := (hT.2.2.2 rfl).2.1
      obtain ⟨S', gs, cs, ph⟩ := c_new (tb := tb) hwf hN2 (hQ.eq (a2.2.1 3 6 (by decide)) (a2.2.1 3 7 (by decide)) (a2.2.1 3 8 (by decide)) (a2.2.1 3 9 (by decide))) hD2 hpd hT2 s2 h13
      obtain ⟨M', gm, cm⟩ := m_new (tb := tb) (dv := 1 - lv) hwf (by omega) (by rw [hR.1.1.i 19 (by decide)]; exact tk.2.2.1) hR.2.2.2.2.1 (hR.2.2.2.2.2 rfl) (by omega) (by omega) (by rw [hR.1.1.i 2 (by decide)]; exact h2M) (fun q hq => by rw [hR.1.1.b 9 (by decide), aM.2.2 9 (by decide)]; exact m11.1 q hq)
      refine ⟨0, S', M', ?_, ?_, ⟨T', _, [], -1, cm, cs⟩, ?_⟩
      · unfold f_Lots_read
        rw [u2, mb_bd2]
        rw [mb_nm, mb_nm] at gs ⊢
        rw [if_pos rfl]
        exact gs
      · rw [gM1]
        unfold Model_read_j161 Model_read_j191
        rw [e13, if_pos (by decide), e15, if_pos (by decide)]
        rw [mb_nm] at gm ⊢
        rw [gI_n _ _ (fun z => by omega), e13, if_pos (by decide), gI_n _ _ (fun z => by omega), e15, if_pos (by decide)]
        exact gm
      · refine Nat.le_trans (Nat.le_of_eq ?_) ph
        unfold Ph
        rw [a2.2.2.2, a1.2.2.2, aS.2.2.2]
    · have hf : ¬ nI mf = 0 := by rw [l0, mb_eq (by omega) (by decide)]; exact hmf
      obtain ⟨Sv, ev⟩ : ∃ Sv, Sv = pI (pI Se 1 4 (nI mf)) 1 3 (nI mp) := ⟨_, rfl⟩
      have v4 : gI Sv 1 4 = nI mf := by rw [ev, gI_n _ _ (fun z => by omega), gI_s]
      have hgt : ¬ nI mf ≤ 0 := by rw [l0, mb_le (by omega) (by decide)]; omega
      refine rd_fault (f := mf) (p := mp) (Su := Sv) hM hS m1.1 m1.2.1 tM aM h2M hR.1.1 aS hf ?_ (by rw [ev, gI_s]) ?_ ?_
      · rw [u1]
        unfold Reader_understand_j157 Reader_understand_j187 Reader_understand_j201
        rw [if_pos c4, cD.2.2.1, if_neg hf, mb_nm, mb_nm, show gI (pI Se 1 4 (nI mf)) 1 6 = nI mp by rw [gI_n _ _ (fun z => by omega)]; exact cD.2.2.2.1 hmf, ← ev, v4, if_neg hf]
      · rw [ev]
        exact a1.tr ((agC.pI Se 1 4 _ (by decide)).tr (agC.pI _ 1 3 _ (by decide)))
      · rw [gM1]
        unfold Model_read_j161 Model_read_j191
        rw [e13, if_pos (by decide), e15, if_neg hgt, mb_nm, gI_n _ _ (fun z => by omega), e13, if_pos (by decide), gI_n _ _ (fun z => by omega), e15, if_neg hgt, hR.2.2.2.2.1.2.2.2.1 hmf]
