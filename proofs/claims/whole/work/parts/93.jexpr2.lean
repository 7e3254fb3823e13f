/-! both read an expression: brackets close, signs, the whole -/
variable {v : Nat → Nat} {n lv : Nat} {S0 S M0 Ms M : St} {T : Tx} {ex : Option Sem} {nN : Nat → List Nat} {pd mf mp cz ec sd so ne sl lo k x0 st f p : Nat} {wq : Option Nat} {tl : Nat → Nat} {eo bo : List Nat} {ev bv : List Sem}
theorem f_unit (h : FM lv M0 f p M) : f_Model_unit M = some M := by
  unfold f_Model_unit Model_unit_j60 Model_unit_j83
  rw [f_is h, mb_bd, if_pos rfl, f_is h, mb_bd, if_pos rfl, mb_nm, f_must h, mb_bd, if_neg h.nz.1]
theorem head12 {eo : List Nat} (h : eok eo) (h1 : ¬ eo.headD 0 = 7) (h2 : ¬ eo.headD 0 = 5 ∧ ¬ eo.headD 0 = 6) : eo = [] ∨ ∃ r, eo = 12 :: r := by
  cases eo with
  | nil => exact Or.inl rfl
  | cons x r =>
    right
    have h1 : ¬ x = 7 := h1
    have h2 : ¬ x = 5 ∧ ¬ x = 6 := h2
    rcases eok_mem h x List.mem_cons_self with z | z
    · exact ⟨r, by rw [z]⟩
    · omega
/-- the pending signs, where a fault is -/
def YO (lv : Nat) (M : St) : Prop := ∃ eo ec, gI M 0 43 = nI eo.length ∧ (∀ i x, eo[i]? = some x → gA M 0 42 (eo.length - 1 - i) = nI (mk x)) ∧ gI M 0 38 = nI (500 * (1 - lv) + ec) ∧ eok eo ∧ eo.length ≤ 40 ∧ ec + eo.length ≤ 480
theorem r_next4 (h : RA v n lv M0 k M) (h0 : TK0 v n lv M0) (hk : k = 400) {M' : St} (hg : f_Model_next M = some M') : agZ [13, 14] [] [] M M' := by
  unfold f_Model_next Model_next_j28 at hg
  rw [h.2.2.1, show (400 : Int32) = nI 400 from rfl, if_pos (by rw [hk])] at hg
  obtain ⟨M3, g3, -, a3, -⟩ := r_fail h h0 (f := 2) (Or.inr rfl)
  rw [show f_Model_fail M 2 = _ from g3, mb_bd] at hg
  cases hg
  exact a3
theorem YO.of {M' : St} (h : XR v n lv M0 x0 (tNf T) k eo ev ec mf mp ne Ms M) (hk : eok eo) (hl : eo.length ≤ 40) (hc : ec + eo.length ≤ 480) (a : agZ [13, 14] [] [] M M') : YO lv M' := ⟨eo, ec, by rw [a.1 43 (by decide)]; exact h.2.2.2.2.2.2.2.1, by rw [a.2.1 42 (by decide)]; exact h.2.2.2.2.2.2.2.2.1, by rw [a.1 38 (by decide)]; exact h.2.2.2.1, hk, hl, hc⟩
theorem j_close (hF : JF v n lv M0 Ms so bo bv T nN) : ∀ (d : Nat) {k ne : Nat} {eo : List Nat} {ev : List Sem} {mf mp cz ec : Nat} {S M : St}, 401 - k ≤ d → JX v n lv S0 M0 Ms sd so sl lo bo bv T ex nN pd tl wq x0 k 11 ne eo ev mf mp cz ec S M → ∃ M', wh (Model_expression_l96 0) M = some M' ∧ ((FF S0 lv M0 M' ∧ YO lv M') ∨ ∃ k' ne' eo' ev' mf' mp' cz' ec' S', k ≤ k' ∧ ¬ (tK v n k' = 13 ∧ 0 < ne') ∧ JX v n lv S0 M0 Ms sd so sl lo bo bv T ex nN pd tl wq x0 k' 11 ne' eo' ev' mf' mp' cz' ec' S' M')
  | 0, k, ne, eo, ev, mf, mp, cz, ec, S, M, hd, h => by
    have := h.2.1.1.2.2.2.1
    omega
  | d + 1, k, ne, eo, ev, mf, mp, cz, ec, S, M, hd, h => by
    obtain ⟨hC, hX, hk1, hk2, hk3, hk4, hk5, hk6, hD, -⟩ := id h
    obtain ⟨h0, hb, hbv, hso, f41, -⟩ := id hF
    have hlv := h0.1
    have hk := hX.1.2.2.2.1
    have hel := eo_len hk1 (by omega)
    have hwl := wl_len hk1 (by omega) hb
    have hnb := nbW_le eo
    rw [if_pos rfl] at hk6
    have h12 := hX.2.2.1
    by_cases c : tK v n k = 13
    · have his : f_Model_is M 10 = some (b2i true) := by rw [show f_Model_is M 10 = _ from r_is hX.1 h0 (x := 13) (by decide), c]; rfl
      by_cases c0 : ne = 0
      · refine ⟨M, wh_inr ?_, Or.inr ⟨k, ne, eo, ev, mf, mp, cz, ec, S, Nat.le_refl k, fun z => by omega, h⟩⟩
        unfold Model_expression_l96
        rw [his, mb_bd, if_neg (by decide), h12, c0, if_pos (by decide)]
      · obtain ⟨i1, i2, i3, i4, i5, i6, i7, i8⟩ := rel_e 5 (Or.inl rfl) hk1 hk6
        rcases head12 i1 i3 (i4 rfl) with z | ⟨r, hr⟩
        · exfalso
          rw [z] at i2
          have i2 : 0 = c12 eo := i2
          omega
        have e15 := rel_15 (t := 1) (bo := bo) (bv := bv) (Nat.le_refl 1) (by decide) hk1 hk6
        have hrel : rel 1 (eo ++ bo) (ev ++ bv) = (12 :: (r ++ bo), (rel 5 eo ev).2 ++ bv) := by
          rw [e15, hr]
          exact rel_stop (Or.inr (show tg 12 < 1 by decide))
        have hvl : (ev ++ bv).length = nbW (eo ++ bo) + 1 := by
          rw [List.length_append, nbW_app]
          omega
        have hO := cs_close hC hk hD c (by omega) (by omega) hvl (r := r ++ bo) (by rw [hrel])
        rw [hrel] at hO
        obtain ⟨M1, g1, x1⟩ := x_comes hlv (y := 0) (by decide) hX hk1 (by omega) hk6 (by omega)
        have x1 : XR v n lv M0 x0 (tNf T) k (rel 5 eo ev).1 (rel 5 eo ev).2 (ec + (eo.length - (rel 5 eo ev).1.length)) mf mp ne Ms M1 := x1
        rw [hr] at x1 i1 i2 i5 i6 i7 i8
        have x2 := x_pop x1 (by have i6 : r.length + 1 ≤ eo.length := i6; omega)
        have e12 : gI (pI M1 0 43 (gI M1 0 43 - 1)) 0 12 = nI ne := x2.2.2.1
        obtain ⟨M2, eM2⟩ : ∃ M2, M2 = pI M1 0 43 (gI M1 0 43 - 1) := ⟨_, rfl⟩
        rw [← eM2] at x2 e12
        have a3 : agZ [12] [] [] M2 (pI M2 0 12 (nI (ne - 1))) := agZ.pI M2 12 _ (by decide)
        have r3 : RA v n lv M0 k (pI M2 0 12 (nI (ne - 1))) := ⟨x2.1.1.tr (FR.zI lv M2 12 _ (by decide) (by decide)), by rw [gI_n _ _ (fun z => by omega)]; exact x2.1.2.1, by rw [gI_n _ _ (fun z => by omega)]; exact x2.1.2.2.1, x2.1.2.2.2⟩
        have x3 := x2.mv (ne' := ne - 1) (fun z => z) r3 (a3.wk (by decide) (by decide) (by decide)) rfl (gI_s _ _ _ _) (by rw [gI_n _ _ (fun z => by omega)]; exact x2.2.2.2.2.2.1) (fun z => by rw [gI_n _ _ (fun z => by omega)]; exact x2.2.2.2.2.2.2.1 z)
        have step : ∀ M4, f_Model_next (pI M2 0 12 (nI (ne - 1))) = some M4 → Model_expression_l96 0 M = some (.inl M4) := by
          intro M4 g4
          unfold Model_expression_l96
          rw [his, mb_bd, if_neg (by decide), h12, if_neg (by rw [l0, mb_le (by omega) (by omega)]; omega), show f_Model_comesOut M 0 = _ from g1, mb_bd, mb_nm, ← eM2, e12, show nI ne - 1 = nI (ne - 1) by rw [l1, pk_sub (by omega)], mb_nm, g4, mb_bd]
        rcases r_next r3 h0 (by rw [c]; decide) with ⟨e, M4, g4, f4⟩ | ⟨e, g4, r4⟩
        · have fo : FOc S0 2 (tP v n k) := by
            rcases hO with ⟨-, z⟩ | ⟨z, -⟩
            · exact z
            · omega
          have i6' : r.length + 1 ≤ eo.length := i6
          have i7' : nbW r + 0 + (eo.length - (r.length + 1)) = nbW eo := i7
          refine ⟨M4, ?_, Or.inl ⟨⟨2, _, Or.inl fo, f4⟩, YO.of x3 i1.1 (by omega) (by show ec + (eo.length - (r.length + 1)) + r.length ≤ 480; omega) (r_next4 r3 h0 e g4)⟩⟩
          rw [wh_inl (step M4 g4)]
          refine wh_inr ?_
          unfold Model_expression_l96
          rw [f_is f4, mb_bd, if_pos rfl]
        · have x4 := x_next x3 r4
          rcases hO with ⟨z, -⟩ | ⟨-, S1, hS1⟩
          · omega
          have i6 : r.length + 1 ≤ eo.length := i6
          have i7 : nbW r + 0 + (eo.length - (r.length + 1)) = nbW eo := i7
          have i8 : pW r + 0 + (eo.length - (r.length + 1)) = pW eo := i8
          have i2 : c12 r + 1 = c12 eo := i2
          have i5 : (rel 5 eo ev).2.length = nbW r + 0 + 1 := i5
          have hlen : (eo ++ bo).length - (12 :: (r ++ bo)).length = eo.length - (r.length + 1) := by
            rw [List.length_append]
            show eo.length + bo.length - ((r ++ bo).length + 1) = _
            rw [List.length_append]
            omega
          rw [hlen] at hS1
          have hJ : JX v n lv S0 M0 Ms sd so sl lo bo bv T ex nN pd tl wq x0 (k + 1) 11 (ne - 1) r (rel 5 eo ev).2 mf mp (cz + (eo.length - (r.length + 1))) (ec + (eo.length - (r.length + 1))) S1 (pI (pI M2 0 12 (nI (ne - 1))) 0 11 (nI (k + 1))) := by
            refine ⟨hS1, x4, i1.1, by omega, by omega, by omega, ?_, by rw [if_pos rfl]; omega, hD, fun z => absurd z (by decide)⟩
            rw [pW_app] at hk5 ⊢
            omega
          obtain ⟨M5, g5, o5⟩ := j_close hF d (by omega) hJ
          refine ⟨M5, by rw [wh_inl (step _ g4)]; exact g5, ?_⟩
          rcases o5 with z | ⟨k', ne', eo', ev', mf', mp', cz', ec', S', z1, z2⟩
          · exact Or.inl z
          · exact Or.inr ⟨k', ne', eo', ev', mf', mp', cz', ec', S', by omega, z2⟩
    · refine ⟨M, wh_inr ?_, Or.inr ⟨k, ne, eo, ev, mf, mp, cz, ec, S, Nat.le_refl k, fun z => c z.1, h⟩⟩
      unfold Model_expression_l96
      rw [show f_Model_is M 10 = _ from r_is hX.1 h0 (x := 13) (by decide), mb_bd, beq_f c, if_pos (by rfl)]
/-- pending signs come out although a fault is there -/
theorem y_out (hlv : lv < 2) : ∀ (eo : List Nat) {ec : Nat} {M : St}, FM lv M0 f p M → gI M 0 43 = nI eo.length → (∀ i x, eo[i]? = some x → gA M 0 42 (eo.length - 1 - i) = nI (mk x)) → gI M 0 38 = nI (500 * (1 - lv) + ec) → eok eo → eo.length ≤ 40 → ec + eo.length ≤ 480 → ∃ M', wh (Model_comesOut_l0 0) M = some M' ∧ FM lv M0 f p M'
  | [], ec, M, h, h43, _, _, _, _, _ => by
    refine ⟨M, wh_inr ?_, h⟩
    unfold Model_comesOut_l0
    have h43 : gI M 0 43 = nI 0 := h43
    rw [h43, if_pos (by decide)]
  | x :: r, ec, M, h, h43, h42, h38, hk, h40, hc => by
    have h40 : r.length + 1 ≤ 40 := h40
    have hc : ec + (r.length + 1) ≤ 480 := hc
    have e43 : gI M 0 43 = nI (r.length + 1) := h43
    have e42 := h42 0 x rfl
    have e42 : gA M 0 42 (r.length + 1 - 1 - 0) = nI (mk x) := e42
    rw [show r.length + 1 - 1 - 0 = r.length by omega] at e42
    have hm := eok_mem hk x List.mem_cons_self
    have head : Model_comesOut_l0 0 M = (if tg x < 5 then some (.inr M) else Model_comesOut_j59_l0 M 0) := by
      unfold Model_comesOut_l0
      rw [e43, if_neg (by rw [l0, mb_le (by omega) (by omega)]; omega), nI_pred, mb_in (by omega) (by decide), mb_gd, mb_gd, mb_gd, mb_cl (by omega), e42]
      rcases hm with rfl | rfl | rfl | rfl
      · rw [if_neg (by decide), if_pos (by rfl), if_neg (by decide), if_neg (by decide), if_pos (by decide)]
      · rw [if_pos (by rfl), if_neg (by decide)]
      · rw [if_neg (by decide), if_pos (by rfl), if_pos (by rfl), if_neg (by decide)]
      · rw [if_neg (by decide), if_pos (by rfl), if_neg (by decide), if_pos (by rfl), if_neg (by decide)]
    by_cases c : tg x < 5
    · rw [if_pos c] at head
      exact ⟨M, wh_inr head, h⟩
    · rw [if_neg c] at head
      have a1 : agZ [43] [] [] M (pI M 0 43 (nI r.length)) := agZ.pI M 43 _ (by decide)
      have f1 : FM lv M0 f p (pI M 0 43 (nI r.length)) := h.mv (FR.zI lv M 43 _ (by decide) (by decide)) (gI_n _ _ (fun z => by omega)) (gI_n _ _ (fun z => by omega)) (gI_n _ _ (fun z => by omega))
      -- one is put out
      have put : ∀ t : Int32, ∃ M2, f_Model_emit (pI M 0 43 (nI r.length)) t 0 = some M2 ∧ FM lv M0 f p M2 ∧ agZ [38] [39, 40] [] (pI M 0 43 (nI r.length)) M2 ∧ gI M2 0 38 = nI (500 * (1 - lv) + (ec + 1)) := by
        intro t
        have q4 : gI (pI M 0 43 (nI r.length)) 0 38 = nI (500 * (1 - lv) + ec) := by rw [gI_n _ _ (fun z => by omega)]; exact h38
        unfold f_Model_emit
        rw [q4, mb_in (by omega) (by decide), mb_gd, mb_nm, mb_cl (by omega), mb_IA, q4, mb_in (by omega) (by decide), mb_gd, mb_nm, mb_cl (by omega), mb_IA, mb_IA, q4, nI_1, mb_nm]
        refine ⟨_, rfl, f1.mv (((FR.zA hlv _ 39 500 ec _ (by decide) (by decide) (by omega) rfl).tr (FR.zA hlv _ 40 500 ec _ (by decide) (by decide) (by omega) rfl)).tr (FR.zI lv _ 38 _ (by decide) (by decide))) (gI_n _ _ (fun z => by omega)) (gI_n _ _ (fun z => by omega)) (gI_n _ _ (fun z => by omega)), ((agZ.pA _ 39 _ _ (by decide)).tr (agZ.pA _ 40 _ _ (by decide))).tr (agZ.pI _ 38 _ (by decide)), by rw [gI_s]; rfl⟩
      obtain ⟨t, ht⟩ : ∃ t : Int32, Model_comesOut_j59_l0 M 0 = bd (f_Model_emit (pI M 0 43 (nI r.length)) t 0) (fun S_15 => some (.inl S_15)) := by
        unfold Model_comesOut_j59_l0 Model_comesOut_j101_l0
        rw [mb_nm, e43, nI_pred, gI_s, mb_in (by omega) (by decide), mb_gd, mb_nm]
        by_cases z1 : gA (pI M 0 43 (nI r.length)) 0 42 (nI r.length).toNatClampNeg = 11
        · rw [if_pos z1]; exact ⟨3, rfl⟩
        · rw [if_neg z1]
          by_cases z2 : gA (pI M 0 43 (nI r.length)) 0 42 (nI r.length).toNatClampNeg = 12
          · rw [if_pos z2]; exact ⟨4, rfl⟩
          · rw [if_neg z2]; exact ⟨5, rfl⟩
      obtain ⟨M2, g2, f2, a2, e38⟩ := put t
      obtain ⟨M3, g3, f3⟩ := y_out hlv r f2 (by rw [a2.1 43 (by decide), gI_s]) (fun i y hi => by
        rw [a2.2.1 42 (by decide), mb_AI]
        have := h42 (i + 1) y hi
        have this : gA M 0 42 (r.length + 1 - 1 - (i + 1)) = nI (mk y) := this
        rw [show r.length + 1 - 1 - (i + 1) = r.length - 1 - i by omega] at this
        exact this) e38 hk.1 (by omega) (by omega)
      refine ⟨M3, ?_, f3⟩
      rw [← g3]
      refine wh_inl ?_
      rw [head, ht, g2, mb_bd]
/-- what an expression leaves -/
def JE (v : Nat → Nat) (n lv : Nat) (S0 M0 Ms : St) (sd so sl lo : Nat) (bo : List Nat) (bv : List Sem) (T : Tx) (ex : Option Sem) (nN : Nat → List Nat) (pd : Nat) (tl : Nat → Nat) (wq : Option Nat) (x0 k0 : Nat) (M : St) : Prop := FF S0 lv M0 M ∨ ∃ k eo ev e mf mp cz ec S, k0 < k ∧ CP v n S0 k 11 sd so 0 sl lo (eo ++ bo) (ev ++ bv) T ex nN pd mf mp cz tl wq S ∧ XR v n lv M0 x0 (tNf T) k [] [e] ec mf mp 0 Ms M ∧ eok eo ∧ c12 eo = 0 ∧ rel 5 eo ev = ([], [e]) ∧ ec ≤ k ∧ cz + pW (eo ++ bo) ≤ k ∧ ev.length = nbW eo + 1 ∧ DOK T nN mf mp ∧ ¬ tK v n k = 5 ∧ ¬ tK v n k = 6 ∧ ¬ tK v n k = 7
theorem j_loop (hF : JF v n lv M0 Ms so bo bv T nN) : ∀ (d : Nat) {k st ne : Nat} {eo : List Nat} {ev : List Sem} {mf mp cz ec : Nat} {S M : St}, 401 - k ≤ d → JX v n lv S0 M0 Ms sd so sl lo bo bv T ex nN pd tl wq x0 k st ne eo ev mf mp cz ec S M → (st = 8 ∨ st = 9) → (st = 8 → ¬ tK v n k = 25) → ∃ M', wh (un2 (Model_expression_l12 0)) (M, (1 : Int32)) = some M' ∧ JE v n lv S0 M0 Ms sd so sl lo bo bv T ex nN pd tl wq x0 k M'
  | 0, k, st, ne, eo, ev, mf, mp, cz, ec, S, M, hd, h, _, _ => by
    have := h.2.1.1.2.2.2.1
    omega
  | d + 1, k, st, ne, eo, ev, mf, mp, cz, ec, S, M, hd, h, hst, h25 => by
    obtain ⟨h0, hb, hbv, hso, f41, -⟩ := id hF
    have hlv := h0.1
    obtain ⟨M1, g1, o1⟩ := j_open hF (401 - k) (Nat.le_refl _) h hst h25
    have h13 : gI M 0 13 = 0 := h.2.1.1.2.1
    have head : ∀ M2, f_Model_unit M1 = some M2 → Model_expression_l12 0 M 1 = (if gI M2 0 13 ≤ 0 then bd (wh (Model_expression_l96 0) M2) (fun S_32 => Model_expression_j145_l12 S_32 0) else some (.inr M2)) := by
      intro M2 g2
      unfold Model_expression_l12
      rw [if_neg (by decide), if_pos h13, g1, mb_bd, g2, mb_bd]
    -- a fault ends it
    have bad : ∀ M2, Model_expression_l12 0 M 1 = some (.inr M2) → FF S0 lv M0 M2 → ∃ M', wh (un2 (Model_expression_l12 0)) (M, (1 : Int32)) = some M' ∧ JE v n lv S0 M0 Ms sd so sl lo bo bv T ex nN pd tl wq x0 k M' := fun M2 g hf => ⟨M2, wh_inr g, Or.inl hf⟩
    have bad2 : ∀ M2, Model_expression_l12 0 M 1 = some (.inl (M2, 1)) → FF S0 lv M0 M2 → ∃ M', wh (un2 (Model_expression_l12 0)) (M, (1 : Int32)) = some M' ∧ JE v n lv S0 M0 Ms sd so sl lo bo bv T ex nN pd tl wq x0 k M' := by
      intro M2 g hf
      refine ⟨M2, ?_, Or.inl hf⟩
      rw [wh_inl (t := (M2, (1 : Int32))) g]
      refine wh_inr ?_
      obtain ⟨f, p, -, hfm⟩ := hf
      show Model_expression_l12 0 M2 1 = _
      unfold Model_expression_l12 Model_expression_j253_l12
      rw [if_neg (by decide), if_neg hfm.nz.1]
    rcases o1 with ff | ⟨k1, st1, ne1, eo1, ev1, mf1, mp1, cz1, ec1, S1, z1, z2, z3, z4, hJ1⟩
    · obtain ⟨f, p, hfo, hfm⟩ := id ff
      refine bad M1 ?_ ff
      rw [head M1 (f_unit hfm), if_neg hfm.nz.2]
    obtain ⟨M2, g2, o2⟩ := j_unit hF hJ1 z2 z4 z3
    rcases o2 with ff | ⟨k2, ev2, mf2, mp2, cz2, ec2, S2, y1, hJ2⟩
    · obtain ⟨f, p, hfo, hfm⟩ := id ff
      refine bad M2 ?_ ff
      rw [head M2 g2, if_neg hfm.nz.2]
    obtain ⟨M3, g3, o3⟩ := j_close hF (401 - k2) (Nat.le_refl _) hJ2
    have hd3 : Model_expression_l12 0 M 1 = Model_expression_j145_l12 M3 0 := by
      rw [head M2 g2, hJ2.2.1.1.2.1, if_pos (by decide), g3, mb_bd]
    rcases o3 with ⟨ff, yo⟩ | ⟨k3, ne3, eo3, ev3, mf3, mp3, cz3, ec3, S3, w1, w2, hJ3⟩
    · obtain ⟨f, p, hfo, hfm⟩ := id ff
      obtain ⟨eo', ec', y43, y42, y38, yk, yl, yc⟩ := yo
      obtain ⟨M4, g4, f4⟩ := y_out hlv eo' hfm y43 y42 y38 yk yl yc
      refine bad M4 ?_ ⟨f, p, hfo, f4⟩
      rw [hd3]
      unfold Model_expression_j145_l12 Model_expression_j177_l12 Model_expression_j195_l12 f_Model_comesOut Model_comesOut_j108
      rw [f_is hfm, mb_bd, if_pos rfl, f_is hfm, mb_bd, if_pos rfl, f_is hfm, mb_bd, if_pos rfl, if_pos rfl, f_fail hfm, mb_bd, g4, mb_bd, mb_bd]
      simp only [ite_self]
    obtain ⟨hC, hX, hk1, hk2, hk3, hk4, hk5, hk6, hD, -⟩ := id hJ3
    have hk := hX.1.2.2.2.1
    have hel := eo_len hk1 (by omega)
    have hwl := wl_len hk1 (by omega) hb
    have hnb := nbW_le eo3
    rw [if_pos rfl] at hk6
    have hvl : (ev3 ++ bv).length = nbW (eo3 ++ bo) + 1 := by
      rw [List.length_append, nbW_app]
      omega
    -- a sign between
    have sign : ∀ (x y : Nat), (x = 5 ∧ y = 0) ∨ (x = 6 ∧ y = 0) ∨ (x = 7 ∧ y = 1) → tK v n k3 = x → Model_expression_j145_l12 M3 0 = Model_expression_j223_l12 M3 0 1 (nI (mk x)) (nI y) → ∃ M', wh (un2 (Model_expression_l12 0)) (M, (1 : Int32)) = some M' ∧ JE v n lv S0 M0 Ms sd so sl lo bo bv T ex nN pd tl wq x0 k M' := by
      intro x y hxy hK hj
      have hx : x = 5 ∨ x = 6 ∨ x = 7 := by omega
      have hty : tg x = 5 + y := by rcases hxy with ⟨rfl, rfl⟩ | ⟨rfl, rfl⟩ | ⟨rfl, rfl⟩ <;> rfl
      have hx2 : isB2 x = true ∧ Nat.beq x 12 = false := by rcases hx with rfl | rfl | rfl <;> exact ⟨rfl, rfl⟩
      have hO := cs_arith hC hk hD hx hK hvl (by omega)
      rw [hty, rel_app (5 + y) (by omega) hb hk1 hk6] at hO
      obtain ⟨i1, i2, i3, i4, i5, i6, i7, i8⟩ := rel_e (5 + y) (by omega) hk1 hk6
      obtain ⟨M4, g4, x4⟩ := x_comes hlv (y := y) (by omega) hX hk1 (by omega) hk6 (by omega)
      generalize hrel : rel (5 + y) eo3 ev3 = RR at *
      obtain ⟨eo4, ev4⟩ := RR
      dsimp only at hO i1 i2 i3 i4 i5 i6 i7 i8 x4
      have x5 := x_push (x := x) x4 (by omega)
      have e43 : gI M4 0 43 = nI eo4.length := x4.2.2.2.2.2.2.2.1
      have step : ∀ M6, f_Model_next (pI (pA M4 0 42 eo4.length (nI (mk x))) 0 43 (nI (eo4.length + 1))) = some M6 → Model_expression_l12 0 M 1 = some (.inl (M6, 1)) := by
        intro M6 g6
        rw [hd3, hj]
        unfold Model_expression_j223_l12
        rw [g4, mb_bd, e43, mb_in (by omega) (by decide), mb_gd, mb_nm, mb_cl (by omega), mb_IA, e43, nI_1, mb_nm, g6, mb_bd]
      rcases r_next x5.1 h0 (by rw [hK]; omega) with ⟨e, M6, g6, f6⟩ | ⟨e, g6, r6⟩
      · have fo : FOc S0 2 (tP v n k3) := by
          rcases hO with ⟨-, z⟩ | ⟨z, -⟩
          · exact z
          · omega
        exact bad2 M6 (step M6 g6) ⟨2, _, Or.inl fo, f6⟩
      · have x6 := x_next x5 r6
        rcases hO with ⟨z, -⟩ | ⟨-, S4, hS4⟩
        · omega
        have hlen : (eo3 ++ bo).length - (eo4 ++ bo).length = eo3.length - eo4.length := by
          rw [List.length_append, List.length_append]
          omega
        rw [hlen] at hS4
        have hJ : JX v n lv S0 M0 Ms sd so sl lo bo bv T ex nN pd tl wq x0 (k3 + 1) 9 ne3 (x :: eo4) ev4 mf3 mp3 (cz3 + (eo3.length - eo4.length)) (ec3 + (eo3.length - eo4.length)) S4 (pI (pI (pA M4 0 42 eo4.length (nI (mk x))) 0 43 (nI (eo4.length + 1))) 0 11 (nI (k3 + 1))) := by
          refine ⟨hS4, x6, ⟨i1, ?_⟩, ?_, hk3, ?_, ?_, ?_, hD, fun z => absurd z (by decide)⟩
          · rcases hxy with ⟨rfl, rfl⟩ | ⟨rfl, rfl⟩ | ⟨rfl, rfl⟩
            · exact Or.inr (Or.inr ⟨Or.inl rfl, i3, (i4 rfl).1, (i4 rfl).2⟩)
            · exact Or.inr (Or.inr ⟨Or.inr rfl, i3, (i4 rfl).1, (i4 rfl).2⟩)
            · exact Or.inr (Or.inl ⟨rfl, i3⟩)
          · show c12 eo4 + cond (Nat.beq x 12) 1 0 = ne3
            rw [hx2.2]
            show c12 eo4 + 0 = ne3
            omega
          · show ec3 + (eo3.length - eo4.length) + (nbW eo4 + cond (isB2 x) 1 0) ≤ k3 + 1
            rw [hx2.1]
            show ec3 + (eo3.length - eo4.length) + (nbW eo4 + 1) ≤ k3 + 1
            omega
          · show cz3 + (eo3.length - eo4.length) + (pW (eo4 ++ bo) + cond (Nat.beq x 12) 0 1) ≤ k3 + 1
            rw [hx2.2, pW_app]
            rw [pW_app] at hk5
            show cz3 + (eo3.length - eo4.length) + (pW eo4 + pW bo + 1) ≤ k3 + 1
            omega
          · rw [if_neg (by decide)]
            show ev4.length = nbW eo4 + cond (isB2 x) 1 0 + 0
            rw [hx2.1]
            show ev4.length = nbW eo4 + 1 + 0
            omega
        obtain ⟨M7, g7, o7⟩ := j_loop hF d (by omega) hJ (Or.inr rfl) (fun z => absurd z (by decide))
        refine ⟨M7, ?_, ?_⟩
        · rw [wh_inl (t := (_, (1 : Int32))) (step _ g6)]
          exact g7
        · rcases o7 with z | ⟨k', eo', ev', e', mf', mp', cz', ec', S', hlt, rest⟩
          · exact Or.inl z
          · exact Or.inr ⟨k', eo', ev', e', mf', mp', cz', ec', S', by omega, rest⟩
    have is5 : f_Model_is M3 11 = some (b2i (Nat.beq (tK v n k3) 5)) := r_is hX.1 h0 (x := 5) (by decide)
    have is6 : f_Model_is M3 12 = some (b2i (Nat.beq (tK v n k3) 6)) := r_is hX.1 h0 (x := 6) (by decide)
    have is7 : f_Model_is M3 13 = some (b2i (Nat.beq (tK v n k3) 7)) := r_is hX.1 h0 (x := 7) (by decide)
    have k5t := (hX.1.tok h0).1
    by_cases c5 : tK v n k3 = 5
    · refine sign 5 0 (Or.inl ⟨rfl, rfl⟩) c5 ?_
      unfold Model_expression_j145_l12 Model_expression_j172_l12 Model_expression_j177_l12
      rw [is5, mb_bd, c5, if_neg (by decide), if_neg (by decide), hX.1.2.2.1, mb_in (by omega) (by decide), mb_gd, mb_cl (by omega), k5t, c5, mb_nm, if_neg (by decide)]
      rfl
    by_cases c6 : tK v n k3 = 6
    · refine sign 6 0 (Or.inr (Or.inl ⟨rfl, rfl⟩)) c6 ?_
      unfold Model_expression_j145_l12 Model_expression_j172_l12 Model_expression_j177_l12
      rw [is5, mb_bd, c6, if_pos (by rfl), is6, mb_bd, c6, if_neg (by decide), if_neg (by decide), hX.1.2.2.1, mb_in (by omega) (by decide), mb_gd, mb_cl (by omega), k5t, c6, mb_nm, if_neg (by decide)]
      rfl
    by_cases c7 : tK v n k3 = 7
    · refine sign 7 1 (Or.inr (Or.inr ⟨rfl, rfl⟩)) c7 ?_
      unfold Model_expression_j145_l12 Model_expression_j172_l12 Model_expression_j177_l12
      rw [is5, mb_bd, c7, if_pos (by rfl), is6, mb_bd, c7, if_pos (by rfl), is7, mb_bd, c7, if_neg (by decide), if_neg (by decide), hX.1.2.2.1, mb_in (by omega) (by decide), mb_gd, mb_cl (by omega), k5t, c7, mb_nm, if_pos (by rfl)]
      rfl
    have e145 : Model_expression_j145_l12 M3 0 = (if gI M3 0 12 ≤ 0 then Model_expression_j195_l12 M3 else bd (f_Model_fail M3 1) (fun S_49 => Model_expression_j195_l12 S_49)) := by
      unfold Model_expression_j145_l12 Model_expression_j177_l12
      rw [is5, mb_bd, beq_f c5, if_pos (by rfl), is6, mb_bd, beq_f c6, if_pos (by rfl), is7, mb_bd, beq_f c7, if_pos (by rfl), if_pos rfl]
    by_cases c0 : ne3 = 0
    · -- the end
      obtain ⟨M4, g4, x4⟩ := x_comes hlv (y := 0) (by decide) hX hk1 (by omega) hk6 (by omega)
      have x4 : XR v n lv M0 x0 (tNf T) k3 (rel 5 eo3 ev3).1 (rel 5 eo3 ev3).2 (ec3 + (eo3.length - (rel 5 eo3 ev3).1.length)) mf3 mp3 ne3 Ms M4 := x4
      obtain ⟨i1, i2, i3, i4, i5, i6, i7, i8⟩ := rel_e 5 (Or.inl rfl) hk1 hk6
      have enil : (rel 5 eo3 ev3).1 = [] := by
        rcases head12 i1 i3 (i4 rfl) with z | ⟨r, hr⟩
        · exact z
        · exfalso
          rw [hr] at i2
          have i2 : c12 r + 1 = c12 eo3 := i2
          omega
      rw [enil] at i5 i7
      obtain ⟨e, he⟩ : ∃ e, (rel 5 eo3 ev3).2 = [e] := by
        have i5 : (rel 5 eo3 ev3).2.length = 0 + 1 := i5
        match hq : (rel 5 eo3 ev3).2, i5 with
        | [e], _ => exact ⟨e, rfl⟩
      rw [enil, he] at x4
      subst c0
      have i7 : 0 + (eo3.length - 0) = nbW eo3 := i7
      refine ⟨M4, wh_inr ?_, Or.inr ⟨k3, eo3, ev3, e, mf3, mp3, cz3, _, S3, by omega, hC, x4, hk1, hk2, ?_, ?_, hk5, hk6, hD, c5, c6, c7⟩⟩
      · show Model_expression_l12 0 M 1 = _
        rw [hd3, e145, hX.2.2.1, if_pos (by decide)]
        unfold Model_expression_j195_l12
        rw [show f_Model_comesOut M3 0 = _ from g4, mb_bd]
      · rw [← enil, ← he]
      · show ec3 + (eo3.length - 0) ≤ k3
        omega
    · -- inside a bracket
      obtain ⟨M4, g4, f4, a4, -⟩ := r_fail hX.1 h0 (f := 1) (Or.inl rfl)
      obtain ⟨eo', ec', y43, y42, y38, yk, yl, yc⟩ := YO.of hX hk1 (by omega) (by omega) a4
      obtain ⟨M5, g5, f5⟩ := y_out hlv eo' f4 y43 y42 y38 yk yl yc
      refine bad M5 ?_ ⟨1, _, ?_, f5⟩
      · rw [hd3, e145, hX.2.2.1, if_neg (by rw [l0, mb_le (by omega) (by omega)]; omega), show f_Model_fail M3 1 = _ from g4, mb_bd]
        unfold Model_expression_j195_l12 f_Model_comesOut Model_comesOut_j108
        rw [g5, mb_bd, mb_bd]
      · by_cases z : tK v n k3 = 0
        · exact cl_endx hC.1 hk hC.2.2.1 hC.2.1 (by decide) (by decide) z
        · exact Or.inl (cs_inref hC hk (by omega) (by omega) ⟨z, c5, c6, c7, fun y => w2 ⟨y, by omega⟩⟩)
