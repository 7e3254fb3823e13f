/-! both read a tell: by its sort -/
variable {v : Nat → Nat} {n lv : Nat} {S0 S M0 M M' : St} {T : Tx} {ex : Option Sem} {nN : Nat → List Nat} {pd mf mp mf' cz ec lc sd so ne sl lo k st f p c w : Nat} {wq : Option Nat} {tl : Nat → Nat} {wl bo : List Nat} {vl bv : List Sem} {b : BSem} {am : (Nat → Int32) → Int32}
theorem isB_b2i (b : Bool) : isB (b2i b) = true := by cases b <;> decide
theorem r_166 (hlv : lv < 2) (hc : cOK T c) (hc40 : c < 40) (hR : RB v n lv M0 k T nN pd mf mp ec lc M) (bt : Bool) (x1 : Int32) : ∃ M', Model_tell_j166 M x1 (nI (40 * (1 - lv) + c)) (b2i bt) = (if x1 = 1 then (bd (f_Model_is M' (2 : Int32)) fun v_42 => if v_42 = 0 then (Model_tell_j217 M' x1 (nI (40 * (1 - lv) + c)) (nI (40 * (1 - lv) + c)) (0 : Int32)) else (gd (inb (gI M' 0 11) 403) <| Model_tell_j217 M' x1 (nI (40 * (1 - lv) + c)) (nI (40 * (1 - lv) + c)) (gA M' 0 7 (gI M' 0 11).toNatClampNeg))) else Model_tell_j223 M' x1 (nI (40 * (1 - lv) + c))) ∧ RB v n lv M0 k T nN pd mf mp ec lc M' ∧ gI M' 0 41 = b2i bt ∧ gA M' 0 29 (40 * (1 - lv) + c) = nI (500 * (1 - lv) + ec) := by
  obtain ⟨M', eM⟩ : ∃ M', M' = pA (pA (pI M 0 41 (b2i bt)) 0 26 (40 * (1 - lv) + c) 0) 0 29 (40 * (1 - lv) + c) (nI (500 * (1 - lv) + ec)) := ⟨_, rfl⟩
  have e38 : gI M 0 38 = nI (500 * (1 - lv) + ec) := hR.2.2.1
  have a : agZ [41] [26, 29] [] M M' := by rw [eM]; exact ((agZ.pI M 41 _ (by decide)).tr (agZ.pA _ 26 _ _ (by decide))).tr (agZ.pA _ 29 _ _ (by decide))
  have fr : FR lv M M' := by rw [eM]; exact ((FR.zI lv M 41 _ (by decide) (by decide)).tr (FR.zA hlv _ 26 40 c _ (by decide) (by decide) hc40 rfl)).tr (FR.zA hlv _ 29 40 c _ (by decide) (by decide) hc40 rfl)
  refine ⟨M', ?_, ?_, by rw [eM, mb_IA, mb_IA, gI_s], by rw [eM, gA_s]⟩
  · unfold Model_tell_j166
    rw [isB_b2i, mb_gd, mb_nm, mb_in (by omega) (by decide), mb_gd, mb_nm, mb_gd, mb_nm, mb_cl (by omega), mb_IA, gI_n _ _ (fun z => by omega), e38, ← eM]
  · refine hR.put hc fr (a.wk (by decide) (by decide) (by decide)) (by rw [eM]; rfl) (fun j hj => ⟨?_, by rw [a.2.1 27 (by decide)], ?_, by rw [a.2.1 30 (by decide)]⟩)
    · rw [eM, gA_n _ _ (fun z => by omega), gA_n _ _ (fun z => hj z.2.2), mb_AI]
    · rw [eM, gA_n _ _ (fun z => hj z.2.2), gA_n _ _ (fun z => by omega), mb_AI]
theorem r_26 (hlv : lv < 2) (hc : cOK T c) (hc40 : c < 40) (hR : RB v n lv M0 k T nN pd mf mp ec lc M) (y : Int32) : RB v n lv M0 k T nN pd mf mp ec lc (pA M 0 26 (40 * (1 - lv) + c) y) := by
  have a : agZ [] [26] [] M (pA M 0 26 (40 * (1 - lv) + c) y) := agZ.pA M 26 _ _ (by decide)
  refine hR.put hc (FR.zA hlv M 26 40 c _ (by decide) (by decide) hc40 rfl) (a.wk (by decide) (by decide) (by decide)) rfl (fun j hj => ⟨gA_n _ _ (fun z => hj z.2.2), by rw [a.2.1 27 (by decide)], by rw [a.2.1 29 (by decide)], by rw [a.2.1 30 (by decide)]⟩)
theorem nI_m5 : ∀ s, s < 5 → ¬ nI s = -1 := by decide
theorem j_tellc (h0 : TK0 v n lv M0) (hso : so < 5) (hJ : JT v n lv S0 M0 k T nN pd mf mp cz ec lc S M) (hK : tK v n k = 17 + so) : ∃ M', Model_tell_j80 M (nI so) = some M' ∧ JO v n lv S0 M0 k M' := by
  obtain ⟨hC, hR, hD, hT, hec, hlc, hcz⟩ := hJ
  have hlv := h0.1
  have hk := hR.1.2.2.2.1
  have e19 : gI M 0 19 = nI (1 - lv) := by rw [hR.1.1.i 19 (by decide)]; exact h0.2.2.1
  have e25 := hR.2.2.2.2.1.2.2.2.2.2.1 so hso
  have hn8 := hT.1 so hso
  have hO := cs_begin hC hk hso hT.1 hK
  unfold Model_tell_j80
  rw [if_neg (nI_m5 so hso), e19, l5, pk_mul, nI_add, mb_in (by omega) (by decide), mb_gd, mb_cl (by omega), e25, l8]
  by_cases c8 : tNt T so = 8
  · rw [c8, if_pos rfl]
    obtain ⟨M1, g1, f1, -⟩ := r_fail hR.1 h0 (f := 2) (Or.inr rfl)
    have g1 : f_Model_fail M 2 = some M1 := g1
    rw [g1, mb_bd]
    refine ⟨M1, ?_, Or.inl ⟨2, _, Or.inl ?_, f1⟩⟩
    · unfold Model_tell_j117
      rw [if_neg f1.nz.2]
    · rcases hO with ⟨-, z⟩ | ⟨z, -⟩
      · exact z
      · omega
  rw [if_neg (by rw [mb_eq (by omega) (by omega)]; exact c8)]
  rcases hO with ⟨z, -⟩ | ⟨h8, hO⟩
  · exact absurd z c8
  have hcn := cOK_new hso h8 hT.1
  have hx2 : ∀ M1, gI M1 0 19 = nI (1 - lv) → gA M1 0 25 (5 * (1 - lv) + so) = nI (tNt T so) → f_Model_next M = some M1 → Model_tell_j117 M (nI so) = Model_tell_j166 M1 (nI so) (nI (40 * (1 - lv) + (8 * so + tNt T so))) (b2i (Nat.beq so 3)) := by
    intro M1 z19 z25 g1
    unfold Model_tell_j117
    rw [hR.1.2.1, if_pos (by decide), g1, mb_bd, z19, l5, pk_mul, nI_add, mb_in (by omega) (by decide), mb_gd, mb_nm, mb_cl (by omega), z25, l8, pk_mul, nI_add, show 8 * (5 * (1 - lv) + so) + tNt T so = 40 * (1 - lv) + (8 * so + tNt T so) by omega]
    by_cases z : so = 3
    · subst z
      rw [if_pos (by rfl)]
      rfl
    · rw [if_neg (by rw [show (3 : Int32) = nI 3 from rfl, mb_eq (by omega) (by decide)]; exact z), beq_f z]
      rfl
  rcases r_next hR.1 h0 (by rw [hK]; omega) with ⟨ek, M1, g1, f1⟩ | ⟨ek, g1, q1⟩
  · have fo : FOc S0 2 (tP v n k) := by
      rcases hO with ⟨-, z⟩ | ⟨z, -⟩
      · exact z
      · omega
    have a1 := r_next4 hR.1 h0 ek g1
    rw [hx2 M1 (by rw [a1.1 19 (by decide)]; exact e19) (by rw [a1.2.1 25 (by decide)]; exact e25) g1]
    obtain ⟨M2, g2, f2⟩ := f_tell166 hlv h0.2.2.1 f1 (nI so) (b2i (Nat.beq so 3)) (isB_b2i _) (c := 8 * so + tNt T so) (by omega)
    exact ⟨M2, g2, Or.inl ⟨2, _, Or.inl fo, f2⟩⟩
  rcases hO with ⟨z, -⟩ | ⟨-, S1, hS1⟩
  · omega
  obtain ⟨r1, lf1⟩ := hR.nx q1
  rw [hx2 _ (by rw [lf1.1.1 19 (by decide)]; exact e19) (by rw [lf1.1.2.1 25 (by decide)]; exact e25) g1]
  obtain ⟨M2, g2, r2, u41, u29⟩ := r_166 hlv hcn (by omega) r1 (Nat.beq so 3) (nI so)
  rw [g2]
  by_cases c1 : so = 1
  · subst c1
    rw [if_pos (by rfl)]
    have hS1 : CP v n S0 (k + 1) 7 1 1 0 (8 * 1 + tNt T 1) (tNt T 4) [] [] T none nN pd mf mp cz (tlU T 1) none S1 := hS1
    have his : f_Model_is M2 2 = some (b2i (Nat.beq (tK v n (k + 1)) 3)) := r_is r2.1 h0 (x := 3) (by decide)
    have hk1 := r2.1.2.2.2.1
    rw [his, mb_bd]
    by_cases c3 : tK v n (k + 1) = 3
    · have hw := tk_3 c3
      rw [c3, Nat.beq_refl, if_neg (by decide), r2.1.2.2.1, mb_in (by omega) (by decide), mb_gd, mb_cl (by omega), (r2.1.tok h0).2.2.1 c3]
      have r3 := r_26 hlv hcn (by omega) r2 (nI (tN v n (k + 1)))
      unfold Model_tell_j217
      rw [mb_in (by omega) (by decide), mb_gd, mb_nm, mb_cl (by omega)]
      have hO2 := cs_weight hS1 hk1 h8 (by unfold tlU; rw [if_pos rfl]) c3
      rcases r_must r3.1 h0 (x := 3) (by decide) (by decide) with ⟨e, M4, g4, f4⟩ | ⟨e, ek4, M4, g4, f4⟩ | ⟨e, ek4, g4, q4⟩
      · exact absurd c3 e
      · have fo : FOc S0 2 (tP v n (k + 1)) := by
          rcases hO2 with ⟨-, z⟩ | ⟨z, -⟩
          · exact z
          · omega
        rw [show f_Model_must (pA M2 0 26 (40 * (1 - lv) + (8 * 1 + tNt T 1)) (nI (tN v n (k + 1)))) 2 = some M4 from g4, mb_bd]
        obtain ⟨M5, g5, f5⟩ := f_tell223 hlv h0.2.2.1 f4 (nI 1) (c := 8 * 1 + tNt T 1) (by omega)
        exact ⟨M5, g5, Or.inl ⟨2, _, Or.inl fo, f5⟩⟩
      · rcases hO2 with ⟨z, -⟩ | ⟨-, S4, hS4⟩
        · omega
        rw [show f_Model_must (pA M2 0 26 (40 * (1 - lv) + (8 * 1 + tNt T 1)) (nI (tN v n (k + 1)))) 2 = _ from g4, mb_bd]
        obtain ⟨r4, lf4⟩ := r3.nx q4
        unfold Model_tell_j223
        rw [if_neg (by decide)]
        obtain ⟨M5, g5, o5⟩ := j_232c (so := 1) (w := tN v n (k + 1)) h0 (by decide) h8 hT hS4 r4 (by rw [lf4.1.1 41 (by decide), mb_IA]; exact u41) (by omega) (by omega) (by omega) hD (fun _ => by rw [lf4.1.2.1 26 (by decide), gA_s]) (fun _ => rfl) (fun _ => by omega)
        exact ⟨M5, g5, o5.mono (by omega)⟩
    · rw [beq_f c3, if_pos (by rfl)]
      have r3 := r_26 hlv hcn (by omega) r2 0
      unfold Model_tell_j217
      rw [mb_in (by omega) (by decide), mb_gd, mb_nm, mb_cl (by omega)]
      rcases r_must r3.1 h0 (x := 3) (by decide) (by decide) with ⟨e, M4, g4, f4⟩ | ⟨e, -⟩ | ⟨e, -⟩
      · rw [show f_Model_must (pA M2 0 26 (40 * (1 - lv) + (8 * 1 + tNt T 1)) 0) 2 = some M4 from g4, mb_bd]
        obtain ⟨M5, g5, f5⟩ := f_tell223 hlv h0.2.2.1 f4 (nI 1) (c := 8 * 1 + tNt T 1) (by omega)
        refine ⟨M5, g5, Or.inl ⟨1, _, ?_, f5⟩⟩
        by_cases z : tK v n (k + 1) = 0
        · exact cl_endx hS1.1 hk1 hS1.2.2.1 hS1.2.1 (by decide) (by decide) z
        · exact Or.inl (cs_noweight hS1 hk1 z c3)
      · exact absurd e c3
      · exact absurd e c3
  rw [if_neg (by rw [l1, mb_eq (by omega) (by decide)]; exact c1)]
  by_cases c4 : so = 4
  · subst c4
    unfold Model_tell_j223
    rw [if_pos (by rfl)]
    have hS1 : CP v n S0 (k + 1) 9 0 4 0 (8 * 4 + tNt T 4) (tNt T 4) [] [] T none nN pd mf mp cz (tlU T 4) none S1 := hS1
    obtain ⟨M3, g3, o3⟩ := j_expr (bo := []) (bv := []) h0 ⟨by decide, fun x hx => absurd hx List.not_mem_nil⟩ rfl (by decide) hS1 r2 u41 (Or.inr rfl) (fun z => absurd z (by decide)) (by omega) (show cz + 0 ≤ k + 1 by omega) hD
    rw [g3, mb_bd]
    rcases o3 with ⟨f, p, fo, fm⟩ | ⟨k3, eo, ev, e, mf3, mp3, cz3, ec3, S3, y1, y2, y3, y4, y5, y6, y7, y8, y9, y10, y11, y12, y13, y14, y15, y16, y17⟩
    · obtain ⟨M4, g4, f4⟩ := f_tell232 hlv h0.2.2.1 fm (nI 4) (c := 8 * 4 + tNt T 4) (by omega)
      exact ⟨M4, g4, Or.inl ⟨f, p, fo, f4⟩⟩
    · have hr : rel 1 (eo ++ []) (ev ++ []) = ([], [e]) := by
        rw [rel_15 (by decide) (by decide) y7 y13, y9]
        rfl
      have hvl : (ev ++ []).length = nbW (eo ++ []) + 1 := by rw [List.append_nil, List.append_nil]; exact y13
      have hpw := (rel_pW (t := 1) (by decide) (eo ++ []) (ev ++ [])).1
      rw [hr] at hpw
      have hpw : 0 + ((eo ++ []).length - 0) = pW (eo ++ []) := hpw
      obtain ⟨M4, g4, o4⟩ := j_232s (ec0 := ec) h0 h8 (T := T) (pd := pd) (mf := mf3) ⟨hT.1, hT.2.1, hT.2.2.1, fun z => hT.2.2.2 (y6 z).1⟩ y2 hr hvl y3 (by rw [y5, u41]; rfl) y11 (by omega) (by omega) y14 ⟨y15, y16, y17⟩ (by rw [y4.1.2.1 29 (by decide)]; exact u29) (fun z => (y6 z).2)
      exact ⟨M4, g4, o4.mono (by omega)⟩
  · have hs4 : so < 4 := by omega
    unfold Model_tell_j223
    rw [if_neg (so_ne4 hs4)]
    have hbg : bgS so = 8 := by
      unfold bgS
      rw [if_neg c1, if_neg c4]
    rw [hbg, if_neg c4] at hS1
    obtain ⟨M5, g5, o5⟩ := j_232c (w := 0) h0 hs4 h8 hT hS1 r2 u41 (by omega) (by omega) (by omega) hD (fun z => absurd z c1) (fun z => absurd z c1) (fun z => absurd z c1)
    exact ⟨M5, g5, o5.mono (by omega)⟩
