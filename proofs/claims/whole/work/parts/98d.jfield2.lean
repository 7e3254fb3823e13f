/-! both read a field: its end, and all of it -/
variable {v : Nat → Nat} {n lv : Nat} {S0 S M0 M M' : St} {T : Tx} {nN : Nat → List Nat} {pd mf mp cz ec lc lo k st f p : Nat}
theorem MQd.eq {dv : Nat} (h : MQd dv T ec lc M) (he : ∀ x, x ∈ [27, 28, 29, 30, 32, 33, 34, 35, 36, 37, 39, 40] → gA M' 0 x = gA M 0 x) : MQd dv T ec lc M' := by
  unfold MQd CND AMT LIT RCD at *
  rw [he 27 (by decide), he 28 (by decide), he 29 (by decide), he 30 (by decide), he 32 (by decide), he 33 (by decide), he 34 (by decide), he 35 (by decide), he 36 (by decide), he 37 (by decide), he 39 (by decide), he 40 (by decide)]
  exact h
theorem wdt_le {a b : Nat} (hb : b < 10000) : wdt a b ≤ 10000 := by
  unfold wdt
  by_cases c : a ≤ b
  · rw [if_pos c]; omega
  · rw [if_neg c]; decide
theorem r_fend (h0 : TK0 v n lv M0) (hD : DOK T nN mf mp) (hpd : pd ≤ 32769) (hf6 : tNf T < 6) (hR : RB v n lv M0 k T nN pd mf mp ec lc M) {q e a b : Nat} (hq : q < k) (hK : tK v n q = 2) (he : e < k) (ha : a < 10000) (hb : b < 10000) : ∃ M', (bd (wh (un2 (Model_tellField_l128 (nI q) (nI a) (nI e) (nI b))) (M, nI (6 * (1 - lv)))) fun S_39 => if nI a ≤ nI b then (Model_tellField_j191 S_39 (nI q) (nI a) (nI b)) else (bd (f_Model_wrong S_39 (5 : Int32) (nI e)) fun S_43 => Model_tellField_j191 S_43 (nI q) (nI a) (nI b))) = some M' ∧ RB v n lv M0 k (addF T a (wdt a b)) (upN nN (tNf T) (tWd v n q)) (pdN pd (wdt a b)) (eF3 (pdN pd (wdt a b)) (tP v n q) (eF2 a b (tP v n e) (eF1 (fnd nN (tWd v n q) (tNf T)) (tP v n q) mf mp))).1 (eF3 (pdN pd (wdt a b)) (tP v n q) (eF2 a b (tP v n e) (eF1 (fnd nN (tWd v n q) (tNf T)) (tP v n q) mf mp))).2 ec lc M' := by
  have hlv := h0.1
  have hk := hR.1.2.2.2.1
  obtain ⟨n6, hN, hm, hm2⟩ := id hD
  have hpq : tP v n q ≤ 2000 := Nat.le_trans (tP_le q) h0.2.1
  have hpe : tP v n e ≤ 2000 := Nat.le_trans (tP_le e) h0.2.1
  obtain ⟨M1, g1, a1, l1', r1, i15, i16⟩ := r_twice h0 hD hR hq hK (nI a) (nI e) (nI b)
  rw [g1, mb_bd]
  obtain ⟨m1, em1⟩ : ∃ m1, m1 = eF1 (fnd nN (tWd v n q) (tNf T)) (tP v n q) mf mp := ⟨_, rfl⟩
  have hm1 := eF1_le (o := fnd nN (tWd v n q) (tNf T)) hpq hm hm2
  have hz1 : m1.1 = 0 → mf = 0 := by
    intro z
    rw [em1] at z
    cases hfn : fnd nN (tWd v n q) (tNf T) with
    | none => rw [hfn] at z; exact z
    | some j => rw [hfn] at z; exact absurd z (bl_ne (by decide))
  rw [← em1] at i15 i16 hm1 ⊢
  have hle : nI a ≤ nI b ↔ a ≤ b := by rw [mb_le (by omega) (by omega)]
  have st2 : ∃ M2, (if nI a ≤ nI b then (Model_tellField_j191 M1 (nI q) (nI a) (nI b)) else (bd (f_Model_wrong M1 (5 : Int32) (nI e)) fun S_43 => Model_tellField_j191 S_43 (nI q) (nI a) (nI b))) = Model_tellField_j191 M2 (nI q) (nI a) (nI b) ∧ agZ [15, 16] [] [] M M2 ∧ gL M2 = gL M ∧ RA v n lv M0 k M2 ∧ gI M2 0 15 = nI (eF2 a b (tP v n e) m1).1 ∧ (¬ (eF2 a b (tP v n e) m1).1 = 0 → gI M2 0 16 = nI (eF2 a b (tP v n e) m1).2) := by
    unfold eF2
    by_cases c : a ≤ b
    · rw [if_pos (hle.mpr c), if_pos c]
      exact ⟨M1, rfl, a1, l1', r1, i15, i16⟩
    · obtain ⟨M2, g2, a2, l2, r2, x15, x16⟩ := r_wrong r1 h0 i15 i16 hm1.1 hm1.2 (f := 5) (by decide) (q := e) (by omega)
      rw [if_neg (fun z => c (hle.mp z)), if_neg c, show f_Model_wrong M1 5 (nI e) = some M2 from g2, mb_bd]
      exact ⟨M2, rfl, a1.tr a2, l2.trans l1', r2, x15, x16⟩
  obtain ⟨M2, g2, a2, l2, r2, x15, x16⟩ := st2
  rw [g2]
  obtain ⟨m2, em2⟩ : ∃ m2, m2 = eF2 a b (tP v n e) m1 := ⟨_, rfl⟩
  have hm2' := eF2_le (a := a) (b := b) (m := m1) hpe hm1.1 hm1.2
  have hz2 : m2.1 = 0 → mf = 0 := by
    intro z
    rw [em2] at z
    unfold eF2 at z
    by_cases c : a ≤ b
    · rw [if_pos c] at z; exact hz1 z
    · rw [if_neg c] at z; exact absurd z (bl_ne (by decide))
  rw [← em2] at x15 x16 hm2' ⊢
  have e19 : gI M2 0 19 = nI (1 - lv) := by rw [r2.1.i 19 (by decide)]; exact h0.2.2.1
  have e20 : gA M2 0 20 (1 - lv) = nI (tNf T) := by rw [a2.2.1 20 (by decide)]; exact hR.2.2.2.2.1.1
  have e8 : gB M2 0 8 q = lN (encM (tWd v n q)) := by
    have := (h0.2.2.2 q (by omega) (fun j hj => hR.1.2.2.2.2 j (by omega))).2.2.2 hK
    rw [r2.1.b 8 (by decide)]
    exact this
  have e24 : gL M2 0 24 = lN pd := by rw [l2]; exact hR.2.2.2.2.1.2.1
  obtain ⟨wd0, ewd⟩ : ∃ wd0, wd0 = wdt a b := ⟨_, rfl⟩
  have hwd : wd0 ≤ 10000 := by rw [ewd]; exact wdt_le hb
  rw [← ewd]
  have hmul : pd * wd0 < 2147483648 := Nat.lt_of_le_of_lt (Nat.mul_le_mul hpd hwd) (by decide)
  obtain ⟨M4, eM4⟩ : ∃ M4, M4 = pA (pA (pB M2 0 21 (6 * (1 - lv) + tNf T) (lN (encM (tWd v n q)))) 0 22 (6 * (1 - lv) + tNf T) (nI a)) 0 23 (6 * (1 - lv) + tNf T) (nI wd0) := ⟨_, rfl⟩
  have g4 : Model_tellField_j191 M2 (nI q) (nI a) (nI b) = (if (lg_cmp (gL (pL M4 0 24 (lN (pd * wd0))) 0 24) (32768 : Int64)) ≤ 0 then (Model_tellField_j296 (pL M4 0 24 (lN (pd * wd0)))) else (bd (f_Model_wrong (pL M4 0 24 (lN (pd * wd0))) (6 : Int32) (nI q)) fun S_58 => nm (pL S_58 0 24 (32769 : Int64)) fun S_59 => Model_tellField_j296 S_59)) := by
    have h253 : Model_tellField_j253 (pA (pB M2 0 21 (6 * (1 - lv) + tNf T) (lN (encM (tWd v n q)))) 0 22 (6 * (1 - lv) + tNf T) (nI a)) (nI q) (nI (6 * (1 - lv) + tNf T)) (nI (6 * (1 - lv) + tNf T)) (nI wd0) = (if (lg_cmp (gL (pL M4 0 24 (lN (pd * wd0))) 0 24) (32768 : Int64)) ≤ 0 then (Model_tellField_j296 (pL M4 0 24 (lN (pd * wd0)))) else (bd (f_Model_wrong (pL M4 0 24 (lN (pd * wd0))) (6 : Int32) (nI q)) fun S_58 => nm (pL S_58 0 24 (32769 : Int64)) fun S_59 => Model_tellField_j296 S_59)) := by
      unfold Model_tellField_j253
      rw [mb_in (by omega) (by decide), mb_gd, mb_nm, mb_gd, mb_nm, mb_cl (by omega), ← eM4]
      have x24 : gL M4 0 24 = lN pd := by rw [eM4]; exact e24
      have x23 : gA M4 0 23 (6 * (1 - lv) + tNf T) = nI wd0 := by rw [eM4, gA_s]
      rw [x24, x23, nI_l (by omega), lN_mul]
    unfold Model_tellField_j191
    rw [e19, mb_in (by omega) (by decide), mb_gd, mb_nm, mb_cl (by omega), e20, l6, pk_mul, nI_add, mb_in (by omega) (by decide), mb_gd, mb_in (by omega) (by decide), mb_gd, mb_nm, mb_cl (by omega), mb_cl (by omega), e8, mb_gd, mb_nm]
    by_cases c : a ≤ b
    · have hw : wd0 = b - a + 1 := by
        rw [ewd]
        unfold wdt
        rw [if_pos c]
        omega
      rw [if_pos (hle.mpr c), pk_sub c, nI_1, ← hw]
      exact h253
    · have hw : wd0 = 1 := by
        rw [ewd]
        unfold wdt
        rw [if_neg c]
      rw [if_neg (fun z => c (hle.mp z)), show (1 : Int32) = nI wd0 by rw [hw]; rfl]
      exact h253
  rw [g4]
  have a4 : agZ [] [22, 23] [21] M2 M4 := by
    rw [eM4]
    exact ((agZ.pB M2 21 _ _ (by decide)).tr (agZ.pA _ 22 _ _ (by decide))).tr (agZ.pA _ 23 _ _ (by decide))
  have fr4 : FR lv M2 M4 := by
    rw [eM4]
    exact ((FR.zB lv M2 21 _ _ (by decide)).tr (FR.zA hlv _ 22 6 (tNf T) _ (by decide) (by decide) hf6 rfl)).tr (FR.zA hlv _ 23 6 (tNf T) _ (by decide) (by decide) hf6 rfl)
  -- how many so far
  have st6 : ∃ M6, (if (lg_cmp (gL (pL M4 0 24 (lN (pd * wd0))) 0 24) (32768 : Int64)) ≤ 0 then (Model_tellField_j296 (pL M4 0 24 (lN (pd * wd0)))) else (bd (f_Model_wrong (pL M4 0 24 (lN (pd * wd0))) (6 : Int32) (nI q)) fun S_58 => nm (pL S_58 0 24 (32769 : Int64)) fun S_59 => Model_tellField_j296 S_59)) = Model_tellField_j296 M6 ∧ agZ [15, 16] [] [] M4 M6 ∧ gL M6 0 24 = lN (pdN pd wd0) ∧ FR lv M4 M6 ∧ gI M6 0 15 = nI (eF3 (pdN pd wd0) (tP v n q) m2).1 ∧ (¬ (eF3 (pdN pd wd0) (tP v n q) m2).1 = 0 → gI M6 0 16 = nI (eF3 (pdN pd wd0) (tP v n q) m2).2) := by
    obtain ⟨M5, eM5⟩ : ∃ M5, M5 = pL M4 0 24 (lN (pd * wd0)) := ⟨_, rfl⟩
    have a5 : agZ [] [] [] M4 M5 := by rw [eM5]; exact ⟨fun _ _ => rfl, fun _ _ => rfl, fun _ _ => rfl⟩
    have fr5 : FR lv M4 M5 := by rw [eM5]; exact FR.zL lv M4 24 _
    have y24 : gL M5 0 24 = lN (pd * wd0) := by rw [eM5, mb_LL, if_pos ⟨rfl, rfl⟩]
    have y15 : gI M5 0 15 = nI m2.1 := by rw [a5.1 15 (by decide), a4.1 15 (by decide)]; exact x15
    have y16 : ¬ m2.1 = 0 → gI M5 0 16 = nI m2.2 := fun z => by rw [a5.1 16 (by decide), a4.1 16 (by decide)]; exact x16 z
    have hcmp : lg_cmp (gL M5 0 24) (32768 : Int64) ≤ 0 ↔ pd * wd0 ≤ 32768 := by
      rw [lg_cmp_le, y24, show (32768 : Int64) = lN 32768 from rfl, lN_le (by omega) (by decide)]
    rw [← eM5]
    unfold eF3
    by_cases c : pd * wd0 ≤ 32768
    · have hp' : pdN pd wd0 = pd * wd0 := by
        unfold pdN
        rw [if_neg (by omega)]
      rw [hp', if_pos (hcmp.mpr c), if_pos c]
      exact ⟨M5, rfl, a5.wk (by decide) (by decide) (by decide), y24, fr5, y15, y16⟩
    · have hp' : pdN pd wd0 = 32769 := by
        unfold pdN
        by_cases c2 : 32769 < pd * wd0
        · rw [if_pos c2]
        · rw [if_neg c2]; omega
      have r5 : RA v n lv M0 k M5 := ⟨(r2.1.tr fr4).tr fr5, by rw [a5.1 13 (by decide), a4.1 13 (by decide)]; exact r2.2.1, by rw [a5.1 11 (by decide), a4.1 11 (by decide)]; exact r2.2.2.1, r2.2.2.2⟩
      obtain ⟨M6, g6, a6, l6', r6, z15, z16⟩ := r_wrong r5 h0 y15 y16 hm2'.1 hm2'.2 (f := 6) (by decide) (q := q) (by omega)
      rw [hp', if_neg (fun z => c (hcmp.mp z)), if_neg (show ¬ (32769 : Nat) ≤ 32768 by decide), show f_Model_wrong M5 6 (nI q) = some M6 from g6, mb_bd, mb_nm]
      refine ⟨pL M6 0 24 (32769 : Int64), rfl, ?_, ?_, ?_, z15, z16⟩
      · exact (a5.wk (by decide) (by decide) (by decide)).tr (a6.tr ⟨fun _ _ => rfl, fun _ _ => rfl, fun _ _ => rfl⟩)
      · rw [mb_LL, if_pos ⟨rfl, rfl⟩]
        rfl
      · have f56 : FR lv M5 M6 := ⟨a6.wk (by decide) (by decide) (by decide), by rw [a6.1 18 (by decide)], fun w hw j hj => by rw [a6.2.1 w.1 (by intro z; cases z)]⟩
        exact (fr5.tr f56).tr (FR.zL lv M6 24 _)
  obtain ⟨M6, g6, a6, z24, fr6, z15, z16⟩ := st6
  rw [g6]
  have b19 : gI M6 0 19 = nI (1 - lv) := by rw [a6.1 19 (by decide), a4.1 19 (by decide)]; exact e19
  have b20 : gA M6 0 20 (1 - lv) = nI (tNf T) := by rw [a6.2.1 20 (by decide), a4.2.1 20 (by decide)]; exact e20
  obtain ⟨M7, eM7⟩ : ∃ M7, M7 = pA M6 0 20 (1 - lv) (nI (tNf T + 1)) := ⟨_, rfl⟩
  have a7 : agZ [] [20] [] M6 M7 := by rw [eM7]; exact agZ.pA M6 20 _ _ (by decide)
  have fr7 : FR lv M6 M7 := by rw [eM7]; exact FR.zA hlv M6 20 1 0 _ (by decide) (by decide) (by decide) (by omega)
  refine ⟨M7, ?_, ?_⟩
  · unfold Model_tellField_j296
    rw [b19, mb_in (by omega) (by decide), mb_gd, mb_gd, mb_nm, mb_cl (by omega), b20, nI_1, ← eM7]
  have aT : agZ [15, 16] [20, 22, 23] [21] M M7 := ((a2.wk (by decide) (by decide) (by decide)).tr (a4.wk (by decide) (by decide) (by decide))).tr ((a6.wk (by decide) (by decide) (by decide)).tr (a7.wk (by decide) (by decide) (by decide)))
  obtain ⟨q1, q2, q3, q4, ⟨t1, t2, t3, t4, t5, t6, t7⟩, q6⟩ := hR
  refine ⟨⟨((r2.1.tr fr4).tr fr6).tr fr7, by rw [aT.1 13 (by decide)]; exact q1.2.1, by rw [aT.1 11 (by decide)]; exact q1.2.2.1, q1.2.2.2⟩, by rw [aT.1 12 (by decide)]; exact q2, by rw [aT.1 38 (by decide)]; exact q3, by rw [aT.2.1 31 (by decide)]; exact q4, ⟨by rw [eM7, gA_s]; rfl, by rw [eM7]; exact z24, by rw [a7.1 15 (by decide)]; exact z15, fun z => by rw [a7.1 16 (by decide)]; exact z16 z, fun f hf => ?_, by rw [aT.2.1 25 (by decide)]; exact t6, by rw [aT.2.1 26 (by decide)]; exact t7⟩, fun z => ?_⟩
  · have hf : f < tNf T + 1 := hf
    have c21 : gB M7 0 21 (6 * (1 - lv) + f) = gB M4 0 21 (6 * (1 - lv) + f) := by rw [a7.2.2 21 (by decide), a6.2.2 21 (by decide)]
    have c22 : gA M7 0 22 (6 * (1 - lv) + f) = gA M4 0 22 (6 * (1 - lv) + f) := by rw [a7.2.1 22 (by decide), a6.2.1 22 (by decide)]
    have c23 : gA M7 0 23 (6 * (1 - lv) + f) = gA M4 0 23 (6 * (1 - lv) + f) := by rw [a7.2.1 23 (by decide), a6.2.1 23 (by decide)]
    show gB M7 0 21 (6 * (1 - lv) + f) = lN (encM (if f = tNf T then tWd v n q else nN f)) ∧ gA M7 0 22 (6 * (1 - lv) + f) = nI (if f = tNf T then a else tFr T f) ∧ gA M7 0 23 (6 * (1 - lv) + f) = nI (if f = tNf T then wd0 else tMa T f)
    rw [c21, c22, c23, eM4]
    by_cases ef : f = tNf T
    · rw [if_pos ef, if_pos ef, if_pos ef, ef]
      exact ⟨by rw [mb_BA, mb_BA, gB_s], by rw [gA_n _ _ (fun z => by omega), gA_s], gA_s _ _ _ _ _⟩
    · rw [if_neg ef, if_neg ef, if_neg ef]
      obtain ⟨d1, d2, d3⟩ := t5 f (by omega)
      exact ⟨by rw [mb_BA, mb_BA, gB_n _ _ (fun z => by omega), a2.2.2 21 (by decide)]; exact d1, by rw [gA_n _ _ (fun z => by omega), gA_n _ _ (fun z => by omega), mb_AB, a2.2.1 22 (by decide)]; exact d2, by rw [gA_n _ _ (fun z => by omega), gA_n _ _ (fun z => by omega), mb_AB, a2.2.1 23 (by decide)]; exact d3⟩
  · have z0 : mf = 0 := by
      refine hz2 ?_
      unfold eF3 at z
      by_cases c : pdN pd wd0 ≤ 32768
      · rw [if_pos c] at z; exact z
      · rw [if_neg c] at z; exact absurd z (bl_ne (by decide))
    exact (q6 z0).eq (fun x hx => aT.2.1 x (fun y => by revert hx y; revert x; decide))
theorem j_field (h0 : TK0 v n lv M0) (hJ : JT v n lv S0 M0 k T nN pd mf mp cz ec lc S M) (hK : tK v n k = 14) : ∃ M', f_Model_tellField M = some M' ∧ JO v n lv S0 M0 k M' := by
  obtain ⟨hC, hR, hD, hT, hec, hlc, hcz⟩ := hJ
  have hlv := h0.1
  have hk := hR.1.2.2.2.1
  have e19 : gI M 0 19 = nI (1 - lv) := by rw [hR.1.1.i 19 (by decide)]; exact h0.2.2.1
  have e20 : gA M 0 20 (1 - lv) = nI (tNf T) := hR.2.2.2.2.1.1
  have n6 := hD.1
  have hO := cs_field hC hk n6 hK
  unfold f_Model_tellField
  rw [e19, mb_in (by omega) (by decide), mb_gd, mb_cl (by omega), e20, l6]
  by_cases c6 : tNf T = 6
  · rw [c6, if_pos rfl]
    obtain ⟨M1, g1, f1, -⟩ := r_fail hR.1 h0 (f := 2) (Or.inr rfl)
    rw [show f_Model_fail M 2 = some M1 from g1, mb_bd]
    obtain ⟨M2, g2, f2⟩ := f_field19 f1
    refine ⟨M2, g2, Or.inl ⟨2, _, Or.inl ?_, f2⟩⟩
    rcases hO with ⟨-, z⟩ | ⟨z, -⟩
    · exact z
    · omega
  rw [if_neg (by rw [mb_eq (by omega) (by omega)]; exact c6)]
  rcases hO with ⟨z, -⟩ | ⟨hf6, hO⟩
  · exact absurd z c6
  have fin : ∀ {M1 : St}, FF S0 lv M0 M1 → JO v n lv S0 M0 k M1 := fun h => Or.inl h
  unfold Model_tellField_j19
  rcases r_next hR.1 h0 (by rw [hK]; decide) with ⟨ek, M1, g1, f1⟩ | ⟨ek, g1, q1⟩
  · have fo : FOc S0 2 (tP v n k) := by
      rcases hO with ⟨-, z⟩ | ⟨z, -⟩
      · exact z
      · omega
    rw [g1, mb_bd, mb_nm, f_must f1, mb_bd, f_must f1, mb_bd, f_is f1, mb_bd, if_pos rfl, f_field60 f1]
    exact ⟨M1, rfl, Or.inl ⟨2, _, Or.inl fo, f1⟩⟩
  rcases hO with ⟨z, -⟩ | ⟨-, S1, hS1⟩
  · omega
  have r1 := (hR.nx q1).1
  rw [g1, mb_bd, mb_nm, r1.1.2.2.1]
  have hk1 := r1.1.2.2.2.1
  -- the name
  rcases j_must h0 r1 (x := 2) (by decide) (by decide) (fun z => cl_endx hS1.1 hk1 hS1.2.2.1 hS1.2.1 (by decide) (by decide) z) (fun z1 z2 => cs_f1no hS1 hk1 z1 z2) (fun z => cs_f1 hS1 hk1 z) with ⟨M2, g2, f, p, fo, fm⟩ | ⟨K1, ek1, g2, r2, S2, hS2, hn2⟩
  · rw [show f_Model_must (pI M 0 11 (nI (k + 1))) 1 = some M2 from g2, mb_bd, f_must fm, mb_bd, f_is fm, mb_bd, if_pos rfl, f_field60 fm]
    exact ⟨M2, rfl, Or.inl ⟨f, p, fo, fm⟩⟩
  rw [show f_Model_must (pI M 0 11 (nI (k + 1))) 1 = _ from g2, mb_bd]
  generalize pI (pI M 0 11 (nI (k + 1))) 0 11 (nI (k + 1 + 1)) = M2 at *
  have hk2 := r2.1.2.2.2.1
  obtain ⟨hal, hlen⟩ := tk_2 K1
  have hp1 : tP v n (k + 1) ≤ 2000 := Nat.le_trans (tP_le _) h0.2.1
  -- from
  rcases j_must (P := fun S3 => CPz v n S0 (k + 1 + 1 + 1) 3 (tNt T 4) T nN pd mf mp cz S3 ∧ NP (tWd v n (k + 1)) (tP v n (k + 1)) S3) h0 r2 (x := 15) (by decide) (by decide) (fun z => cl_endx hS2.1 hk2 hS2.2.2.1 hS2.2.1 (by decide) (by decide) z) (fun z1 z2 => cs_f2no hS2 hk2 z1 z2) (fun z => cs_f2 hS2 hk2 z (fun S3 h3 a3 => ⟨h3, hn2.ag a3 (by decide) (by decide)⟩)) with ⟨M3, g3, f, p, fo, fm⟩ | ⟨K2, ek2, g3, r3, S3, hS3, hn3⟩
  · rw [show f_Model_must M2 21 = some M3 from g3, mb_bd, f_is fm, mb_bd, if_pos rfl, f_field60 fm]
    exact ⟨M3, rfl, Or.inl ⟨f, p, fo, fm⟩⟩
  rw [show f_Model_must M2 21 = _ from g3, mb_bd]
  generalize pI M2 0 11 (nI (k + 1 + 1 + 1)) = M3 at *
  have hk3 := r3.1.2.2.2.1
  have his3 : f_Model_is M3 2 = some (b2i (Nat.beq (tK v n (k + 1 + 1 + 1)) 3)) := r_is r3.1 h0 (x := 3) (by decide)
  rw [his3, mb_bd]
  -- the least value
  have mu3 := j_must h0 r3 (x := 3) (by decide) (by decide) (fun z => cl_endx hS3.1 hk3 hS3.2.2.1 hS3.2.1 (by decide) (by decide) z) (fun z1 z2 => cs_f3no hS3 hk3 z1 z2) (fun z => cs_f3 hS3 hk3 z hn3)
  by_cases c3 : tK v n (k + 1 + 1 + 1) = 3
  case neg =>
    rw [beq_f c3, if_pos (by rfl)]
    rcases mu3 with ⟨M4, g4, f, p, fo, fm⟩ | ⟨z, -⟩
    · unfold Model_tellField_j60
      rw [show f_Model_must M3 2 = some M4 from g4, mb_bd, f_must fm, mb_bd, mb_nm, f_is fm, mb_bd, if_pos rfl, f_field98 fm]
      exact ⟨M4, rfl, Or.inl ⟨f, p, fo, fm⟩⟩
    · exact absurd z c3
  rw [c3, Nat.beq_refl, if_neg (by decide), r3.1.2.2.1, mb_in (by omega) (by decide), mb_gd, mb_cl (by omega), (r3.1.tok h0).2.2.1 c3]
  have ha := tk_3 c3
  unfold Model_tellField_j60
  rcases mu3 with ⟨M4, g4, f, p, fo, fm⟩ | ⟨-, ek3, g4, r4, S4, hS4, hn4, h164⟩
  · rw [show f_Model_must M3 2 = some M4 from g4, mb_bd, f_must fm, mb_bd, mb_nm, f_is fm, mb_bd, if_pos rfl, f_field98 fm]
    exact ⟨M4, rfl, Or.inl ⟨f, p, fo, fm⟩⟩
  rw [show f_Model_must M3 2 = _ from g4, mb_bd]
  generalize pI M3 0 11 (nI (k + 1 + 1 + 1 + 1)) = M4 at *
  have hk4 := r4.1.2.2.2.1
  -- to
  rcases j_must (P := fun S5 => CPz v n S0 (k + 1 + 1 + 1 + 1 + 1) 5 (tNt T 4) T nN pd mf mp cz S5 ∧ NP (tWd v n (k + 1)) (tP v n (k + 1)) S5 ∧ gI S5 1 16 = nI (tN v n (k + 1 + 1 + 1))) h0 r4 (x := 16) (by decide) (by decide) (fun z => cl_endx hS4.1 hk4 hS4.2.2.1 hS4.2.1 (by decide) (by decide) z) (fun z1 z2 => cs_f4no hS4 hk4 z1 z2) (fun z => cs_f4 hS4 hk4 z (fun S5 h5 a5 => ⟨h5, hn4.ag a5 (by decide) (by decide), by rw [a5.i 1 16 (by decide)]; exact h164⟩)) with ⟨M5, g5, f, p, fo, fm⟩ | ⟨K4, ek4, g5, r5, S5, hS5, hn5, h165⟩
  · rw [show f_Model_must M4 22 = some M5 from g5, mb_bd, mb_nm, f_is fm, mb_bd, if_pos rfl, f_field98 fm]
    exact ⟨M5, rfl, Or.inl ⟨f, p, fo, fm⟩⟩
  rw [show f_Model_must M4 22 = _ from g5, mb_bd]
  generalize pI M4 0 11 (nI (k + 1 + 1 + 1 + 1 + 1)) = M5 at *
  have hk5 := r5.1.2.2.2.1
  have his5 : f_Model_is M5 2 = some (b2i (Nat.beq (tK v n (k + 1 + 1 + 1 + 1 + 1)) 3)) := r_is r5.1 h0 (x := 3) (by decide)
  rw [mb_nm, his5, mb_bd]
  -- the greatest
  by_cases c5 : tK v n (k + 1 + 1 + 1 + 1 + 1) = 3
  case neg =>
    rw [beq_f c5, if_pos (by rfl)]
    rcases j_must (P := fun _ => True) h0 r5 (x := 3) (by decide) (by decide) (fun z => cl_endx hS5.1 hk5 hS5.2.2.1 hS5.2.1 (by decide) (by decide) z) (fun z1 z2 => cs_f5no hS5 hk5 z1 z2) (fun z => absurd z c5) with ⟨M6, g6, f, p, fo, fm⟩ | ⟨z, -⟩
    · unfold Model_tellField_j98
      rw [show f_Model_must M5 2 = some M6 from g6, mb_bd, f_must fm, mb_bd, if_neg fm.nz.2]
      exact ⟨M6, rfl, Or.inl ⟨f, p, fo, fm⟩⟩
    · exact absurd z c5
  rw [c5, Nat.beq_refl, if_neg (by decide), r5.1.2.2.1, mb_in (by omega) (by decide), mb_gd, mb_cl (by omega), (r5.1.tok h0).2.2.1 c5]
  have hb := tk_3 c5
  unfold Model_tellField_j98
  rcases j_must h0 r5 (x := 3) (by decide) (by decide) (fun z => cl_endx hS5.1 hk5 hS5.2.2.1 hS5.2.1 (by decide) (by decide) z) (fun z1 z2 => cs_f5no hS5 hk5 z1 z2) (fun z => cs_f5 hS5 hk5 hD hf6 hT.2.2.1 z hal hlen hp1 ha hn5 h165) with ⟨M6, g6, f, p, fo, fm⟩ | ⟨-, ek5, g6, r6, S6, hS6⟩
  · rw [show f_Model_must M5 2 = some M6 from g6, mb_bd, f_must fm, mb_bd, if_neg fm.nz.2]
    exact ⟨M6, rfl, Or.inl ⟨f, p, fo, fm⟩⟩
  rw [show f_Model_must M5 2 = _ from g6, mb_bd]
  generalize pI M5 0 11 (nI (k + 1 + 1 + 1 + 1 + 1 + 1)) = M6 at *
  have hk6 := r6.1.2.2.2.1
  -- the sign behind it
  rcases j_must (P := fun S7 => CPz v n S0 (k + 1 + 1 + 1 + 1 + 1 + 1 + 1) 0 (tNt T 4) (addF T (tN v n (k + 1 + 1 + 1)) (wdt (tN v n (k + 1 + 1 + 1)) (tN v n (k + 1 + 1 + 1 + 1 + 1)))) (upN nN (tNf T) (tWd v n (k + 1))) (pdN pd (wdt (tN v n (k + 1 + 1 + 1)) (tN v n (k + 1 + 1 + 1 + 1 + 1)))) (eF3 (pdN pd (wdt (tN v n (k + 1 + 1 + 1)) (tN v n (k + 1 + 1 + 1 + 1 + 1)))) (tP v n (k + 1)) (eF2 (tN v n (k + 1 + 1 + 1)) (tN v n (k + 1 + 1 + 1 + 1 + 1)) (tP v n (k + 1 + 1 + 1 + 1 + 1)) (eF1 (fnd nN (tWd v n (k + 1)) (tNf T)) (tP v n (k + 1)) mf mp))).1 (eF3 (pdN pd (wdt (tN v n (k + 1 + 1 + 1)) (tN v n (k + 1 + 1 + 1 + 1 + 1)))) (tP v n (k + 1)) (eF2 (tN v n (k + 1 + 1 + 1)) (tN v n (k + 1 + 1 + 1 + 1 + 1)) (tP v n (k + 1 + 1 + 1 + 1 + 1)) (eF1 (fnd nN (tWd v n (k + 1)) (tNf T)) (tP v n (k + 1)) mf mp))).2 cz S7) h0 r6 (x := 4) (by decide) (by decide) (fun z => cl_endx hS6.1 hk6 hS6.2.2.1 hS6.2.1 (by decide) (by decide) z) (fun z1 z2 => cs_f6no hS6 hk6 z1 z2) (fun z => cs_f6 hS6 hk6 z (fun S7 h7 _ => h7)) with ⟨M7, g7, f, p, fo, fm⟩ | ⟨K6, ek6, g7, r7, S7, hS7⟩
  · rw [show f_Model_must M6 8 = some M7 from g7, mb_bd, if_neg fm.nz.2]
    exact ⟨M7, rfl, Or.inl ⟨f, p, fo, fm⟩⟩
  rw [show f_Model_must M6 8 = _ from g7, mb_bd]
  generalize pI M6 0 11 (nI (k + 1 + 1 + 1 + 1 + 1 + 1 + 1)) = M7 at *
  have e19' : gI M7 0 19 = nI (1 - lv) := by rw [r7.1.1.i 19 (by decide)]; exact h0.2.2.1
  rw [r7.1.2.1, if_pos (by decide), e19', l6, pk_mul, mb_nm]
  obtain ⟨M8, g8, r8⟩ := r_fend h0 hD hT.2.2.1 hf6 r7 (q := k + 1) (e := k + 1 + 1 + 1 + 1 + 1) (by omega) K1 (by omega) ha hb
  refine ⟨M8, g8, Or.inr ⟨_, _, _, _, _, _, _, _, _, S7, ?_, hS7, r8, ?_, hT.addF ha hb rfl, by omega, by omega, by omega⟩⟩
  · omega
  · have hp5 : tP v n (k + 1 + 1 + 1 + 1 + 1) ≤ 2000 := Nat.le_trans (tP_le _) h0.2.1
    have m1 := eF1_le (o := fnd nN (tWd v n (k + 1)) (tNf T)) hp1 hD.2.2.1 hD.2.2.2
    have m2 := eF2_le (a := tN v n (k + 1 + 1 + 1)) (b := tN v n (k + 1 + 1 + 1 + 1 + 1)) hp5 m1.1 m1.2
    have m3 := eF3_le (pd := pdN pd (wdt (tN v n (k + 1 + 1 + 1)) (tN v n (k + 1 + 1 + 1 + 1 + 1)))) hp1 m2.1 m2.2
    refine ⟨by show tNf T + 1 ≤ 6; omega, fun f hf => ?_, m3.1, m3.2⟩
    have hf : f < tNf T + 1 := hf
    show alW (if f = tNf T then tWd v n (k + 1) else nN f) ∧ (if f = tNf T then tWd v n (k + 1) else nN f).length ≤ 8
    by_cases ef : f = tNf T
    · rw [if_pos ef]; exact ⟨hal, hlen⟩
    · rw [if_neg ef]; exact hD.2.1 f (by omega)
