/-! both read a field -/
variable {v : Nat → Nat} {n lv : Nat} {S0 S M0 M M' : St} {T : Tx} {nN : Nat → List Nat} {pd mf mp cz ec lc lo k st f p : Nat}
theorem j_must (h0 : TK0 v n lv M0) (hR : RB v n lv M0 k T nN pd mf mp ec lc M) {x : Nat} (hx : x < 27) (hx0 : ¬ x = 0) (hz : tK v n k = 0 → FOx S0 1 (tP v n k)) (hno : ¬ tK v n k = 0 → ¬ tK v n k = x → FOc S0 1 (tP v n k)) {P : St → Prop} (hyes : tK v n k = x → OUT v n S0 k P) : (∃ M', f_Model_must M (nI (mk x)) = some M' ∧ FF S0 lv M0 M') ∨ (tK v n k = x ∧ k < 400 ∧ f_Model_must M (nI (mk x)) = some (pI M 0 11 (nI (k + 1))) ∧ RB v n lv M0 (k + 1) T nN pd mf mp ec lc (pI M 0 11 (nI (k + 1))) ∧ ∃ S', P S') := by
  rcases r_must hR.1 h0 hx hx0 with ⟨e, M1, g1, f1⟩ | ⟨e, ek, M1, g1, f1⟩ | ⟨e, ek, g1, r1⟩
  · refine Or.inl ⟨M1, g1, 1, _, ?_, f1⟩
    by_cases z : tK v n k = 0
    · exact hz z
    · exact Or.inl (hno z e)
  · refine Or.inl ⟨M1, g1, 2, _, Or.inl ?_, f1⟩
    rcases hyes e with ⟨-, z⟩ | ⟨z, -⟩
    · exact z
    · omega
  · refine Or.inr ⟨e, ek, g1, (hR.nx r1).1, ?_⟩
    rcases hyes e with ⟨z, -⟩ | ⟨-, z⟩
    · omega
    · exact z
theorem bl_id (f p mf mp : Nat) : blN f p (blN f p mf mp).1 (blN f p mf mp).2 = blN f p mf mp := by
  unfold blN
  by_cases c0 : mf = 0
  · rw [if_pos c0]
    dsimp only
    by_cases c1 : f = 0
    · rw [if_pos c1]
    · rw [if_neg c1, if_neg (Nat.lt_irrefl p), if_pos rfl, if_neg (Nat.lt_irrefl f)]
  rw [if_neg c0]
  by_cases c1 : p < mp
  · rw [if_pos c1]
    dsimp only
    by_cases c2 : f = 0
    · rw [if_pos c2]
    · rw [if_neg c2, if_neg (Nat.lt_irrefl p), if_pos rfl, if_neg (Nat.lt_irrefl f)]
  rw [if_neg c1]
  by_cases c2 : p = mp
  · rw [if_pos c2]
    by_cases c3 : f < mf
    · rw [if_pos c3]
      dsimp only
      by_cases c4 : f = 0
      · rw [if_pos c4]
      · rw [if_neg c4, if_neg (Nat.lt_irrefl p), if_pos rfl, if_neg (Nat.lt_irrefl f)]
    · rw [if_neg c3]
      dsimp only
      rw [if_neg c0, if_neg c1, if_pos c2, if_neg c3]
  · rw [if_neg c2]
    dsimp only
    rw [if_neg c0, if_neg c1, if_neg c2]
theorem eF1_le {o : Option Nat} (hp : p ≤ 2000) (hm : mf ≤ 6) (hm2 : mp ≤ 2000) : (eF1 o p mf mp).1 ≤ 6 ∧ (eF1 o p mf mp).2 ≤ 2000 := by
  cases o with
  | none => exact ⟨hm, hm2⟩
  | some j => exact bl_le (by decide) hp hm hm2
theorem eF2_le {a b q : Nat} {m : Nat × Nat} (hp : q ≤ 2000) (hm : m.1 ≤ 6) (hm2 : m.2 ≤ 2000) : (eF2 a b q m).1 ≤ 6 ∧ (eF2 a b q m).2 ≤ 2000 := by
  unfold eF2
  by_cases c : a ≤ b
  · rw [if_pos c]; exact ⟨hm, hm2⟩
  · rw [if_neg c]; exact bl_le (by decide) hp hm hm2
theorem eF3_le {pd : Nat} {m : Nat × Nat} (hp : p ≤ 2000) (hm : m.1 ≤ 6) (hm2 : m.2 ≤ 2000) : (eF3 pd p m).1 ≤ 6 ∧ (eF3 pd p m).2 ≤ 2000 := by
  unfold eF3
  by_cases c : pd ≤ 32768
  · rw [if_pos c]; exact ⟨hm, hm2⟩
  · rw [if_neg c]; exact bl_le (by decide) hp hm hm2
theorem eF_0 {o : Option Nat} {a b q pd' : Nat} (h : (eF3 pd' p (eF2 a b q (eF1 o p mf mp))).1 = 0) : mf = 0 ∧ a ≤ b ∧ pd' ≤ 32768 := by
  unfold eF3 at h
  by_cases c : pd' ≤ 32768
  · rw [if_pos c] at h
    unfold eF2 at h
    by_cases c2 : a ≤ b
    · rw [if_pos c2] at h
      cases o with
      | none => exact ⟨h, c2, c⟩
      | some j => exact absurd h (bl_ne (by decide))
    · rw [if_neg c2] at h
      exact absurd h (bl_ne (by decide))
  · rw [if_neg c] at h
    exact absurd h (bl_ne (by decide))
theorem pr_congr {ma mb : Nat → Nat} : ∀ (m f : Nat), (∀ g, f ≤ g → g < f + m → ma g = mb g) → pr ma f m = pr mb f m
  | 0, _, _ => rfl
  | m + 1, f, h => by
    show ma f * pr ma (f + 1) m = mb f * pr mb (f + 1) m
    rw [h f (Nat.le_refl f) (by omega), pr_congr m (f + 1) (fun g h1 h2 => h g (by omega) (by omega))]
theorem tIn_addF (a m : Nat) : tIn (addF T a m) = tIn T * m := by
  show pr (fun f => if f = tNf T then m else tMa T f) 0 (tNf T + 1) = pr (tMa T) 0 (tNf T) * m
  rw [pr_split, Nat.zero_add, pr_congr (mb := tMa T) (tNf T) 0 (fun g _ hg => by rw [if_neg (by omega)])]
  show _ * ((if tNf T = tNf T then m else tMa T (tNf T)) * 1) = _
  rw [if_pos rfl, Nat.mul_one]
theorem TI.addF {a b q pd' : Nat} {o : Option Nat} (h : TI T pd mf) (ha : a < 10000) (hb : b < 10000) (hpd : pd' = pdN pd (wdt a b)) : TI (addF T a (wdt a b)) pd' (eF3 pd' p (eF2 a b q (eF1 o p mf mp))).1 := by
  have hle : pd' ≤ 32769 := by
    rw [hpd]
    unfold pdN
    by_cases c : 32769 < pd * wdt a b
    · rw [if_pos c]; exact Nat.le_refl _
    · rw [if_neg c]; omega
  refine ⟨h.1, h.2.1, hle, fun z => ?_⟩
  obtain ⟨z1, z2, z3⟩ := eF_0 z
  obtain ⟨g1, g2, g3⟩ := h.2.2.2 z1
  have hw : wdt a b = b + 1 - a := by unfold wdt; rw [if_pos z2]
  refine ⟨fun f hf => ?_, ?_, z3⟩
  · show 1 ≤ (if f = tNf T then wdt a b else tMa T f) ∧ (if f = tNf T then a else tFr T f) + (if f = tNf T then wdt a b else tMa T f) ≤ 10000
    have hf : f < tNf T + 1 := hf
    by_cases e : f = tNf T
    · rw [if_pos e, if_pos e, hw]; omega
    · rw [if_neg e, if_neg e]; exact g1 f (by omega)
  · rw [tIn_addF, g2, hpd]
    unfold pdN at *
    by_cases c : 32769 < pd * wdt a b
    · rw [if_pos c] at hpd
      omega
    · rw [if_neg c]
/-- the reference: a field's name told already -/
theorem r_twice (h0 : TK0 v n lv M0) (hD : DOK T nN mf mp) (hR : RB v n lv M0 k T nN pd mf mp ec lc M) {q : Nat} (hq : q < k) (hK : tK v n q = 2) (x2 x3 x4 : Int32) : ∃ M', wh (un2 (Model_tellField_l128 (nI q) x2 x3 x4)) (M, nI (6 * (1 - lv))) = some M' ∧ agZ [15, 16] [] [] M M' ∧ gL M' = gL M ∧ RA v n lv M0 k M' ∧ gI M' 0 15 = nI (eF1 (fnd nN (tWd v n q) (tNf T)) (tP v n q) mf mp).1 ∧ (¬ (eF1 (fnd nN (tWd v n q) (tNf T)) (tP v n q) mf mp).1 = 0 → gI M' 0 16 = nI (eF1 (fnd nN (tWd v n q) (tNf T)) (tP v n q) mf mp).2) := by
  obtain ⟨n6, hN, hm, hm2⟩ := hD
  have hlv := h0.1
  obtain ⟨hal, hlen⟩ := tk_2 hK
  have hk := hR.1.2.2.2.1
  have hpl : tP v n q ≤ 2000 := Nat.le_trans (tP_le q) h0.2.1
  have e8 : gB M 0 8 q = lN (encM (tWd v n q)) := by
    have := (h0.2.2.2 q (by omega) (fun j hj => hR.1.2.2.2.2 j (by omega))).2.2.2 hK
    rw [hR.1.1.b 8 (by decide)]
    exact this
  refine wh_ix (f := un2 (Model_tellField_l128 (nI q) x2 x3 x4)) (tNf T) (fun f r => r.2 = nI (6 * (1 - lv) + f) ∧ agZ [15, 16] [] [] M r.1 ∧ gL r.1 = gL M ∧ RA v n lv M0 k r.1 ∧ gI r.1 0 15 = nI (eF1 (fnd nN (tWd v n q) f) (tP v n q) mf mp).1 ∧ (¬ (eF1 (fnd nN (tWd v n q) f) (tP v n q) mf mp).1 = 0 → gI r.1 0 16 = nI (eF1 (fnd nN (tWd v n q) f) (tP v n q) mf mp).2)) _ ⟨rfl, agZ.rf M, rfl, hR.1, hR.2.2.2.2.1.2.2.1, hR.2.2.2.2.1.2.2.2.1⟩ ?_ ?_
  · intro f r hf hI
    obtain ⟨Mx, y⟩ := r
    obtain ⟨i1, i2, i3, i4, i5, i6⟩ := hI
    dsimp only at i1 i2 i3 i4 i5 i6
    subst i1
    have e19 : gI Mx 0 19 = nI (1 - lv) := by rw [i4.1.i 19 (by decide)]; exact h0.2.2.1
    have e20 : gA Mx 0 20 (1 - lv) = nI (tNf T) := by rw [i2.2.1 20 (by decide)]; exact hR.2.2.2.2.1.1
    have e21 : gB Mx 0 21 (6 * (1 - lv) + f) = lN (encM (nN f)) := by rw [i2.2.2 21 (by decide)]; exact (hR.2.2.2.2.1.2.2.2.2.1 f hf).1
    have e8' : gB Mx 0 8 q = lN (encM (tWd v n q)) := by rw [i2.2.2 8 (by decide)]; exact e8
    have hc : lg_cmp (lN (encM (nN f))) (lN (encM (tWd v n q))) = 0 ↔ nN f = tWd v n q := by
      rw [lg_cmp_eq]
      exact encM_eq (hN f hf).1 hal (hN f hf).2 hlen
    have hs : fnd nN (tWd v n q) (f + 1) = (match fnd nN (tWd v n q) f with | some j => some j | none => if nN f = tWd v n q then some f else none) := rfl
    left
    by_cases c : nN f = tWd v n q
    · obtain ⟨w1, w2⟩ := eF1_le (o := fnd nN (tWd v n q) f) hpl hm hm2
      obtain ⟨M2, g2, a2, l2, r2, x15, x16⟩ := r_wrong i4 h0 i5 i6 w1 w2 (f := 3) (by decide) (q := q) (by omega)
      have hb : blN 3 (tP v n q) (eF1 (fnd nN (tWd v n q) f) (tP v n q) mf mp).1 (eF1 (fnd nN (tWd v n q) f) (tP v n q) mf mp).2 = eF1 (fnd nN (tWd v n q) (f + 1)) (tP v n q) mf mp := by
        rw [hs]
        cases hfn : fnd nN (tWd v n q) f with
        | none =>
          dsimp only
          rw [if_pos c]
          rfl
        | some j =>
          dsimp only
          exact bl_id 3 _ _ _
      rw [hb] at x15 x16
      refine ⟨(M2, nI (6 * (1 - lv) + (f + 1))), ?_, rfl, i2.tr a2, l2.trans i3, r2, x15, x16⟩
      show Model_tellField_l128 (nI q) x2 x3 x4 Mx (nI (6 * (1 - lv) + f)) = _
      unfold Model_tellField_l128 Model_tellField_j173_l128
      rw [e19, mb_in (by omega) (by decide), mb_gd, mb_cl (by omega), e20, l6, pk_mul, nI_add, if_neg (by rw [mb_le (by omega) (by omega)]; omega), mb_in (by omega) (by decide), mb_gd, mb_in (by omega) (by decide), mb_gd, mb_cl (by omega), mb_cl (by omega), e21, e8', if_pos (hc.mpr c), show f_Model_wrong Mx 3 (nI q) = some M2 from g2, mb_bd, mb_nm, nI_1]
      rfl
    · refine ⟨(Mx, nI (6 * (1 - lv) + (f + 1))), ?_, rfl, i2, i3, i4, ?_⟩
      · show Model_tellField_l128 (nI q) x2 x3 x4 Mx (nI (6 * (1 - lv) + f)) = _
        unfold Model_tellField_l128 Model_tellField_j173_l128
        rw [e19, mb_in (by omega) (by decide), mb_gd, mb_cl (by omega), e20, l6, pk_mul, nI_add, if_neg (by rw [mb_le (by omega) (by omega)]; omega), mb_in (by omega) (by decide), mb_gd, mb_in (by omega) (by decide), mb_gd, mb_cl (by omega), mb_cl (by omega), e21, e8', if_neg (fun z => c (hc.mp z)), mb_nm, nI_1]
        rfl
      · have hb : fnd nN (tWd v n q) (f + 1) = fnd nN (tWd v n q) f := by
          rw [hs]
          cases hfn : fnd nN (tWd v n q) f with
          | none => dsimp only; rw [if_neg c]
          | some j => rfl
        rw [hb]
        exact ⟨i5, i6⟩
  · intro r hI
    obtain ⟨Mx, y⟩ := r
    obtain ⟨i1, i2, i3, i4, i5, i6⟩ := hI
    dsimp only at i1 i2 i3 i4 i5 i6
    subst i1
    have e19 : gI Mx 0 19 = nI (1 - lv) := by rw [i4.1.i 19 (by decide)]; exact h0.2.2.1
    have e20 : gA Mx 0 20 (1 - lv) = nI (tNf T) := by rw [i2.2.1 20 (by decide)]; exact hR.2.2.2.2.1.1
    refine ⟨Mx, ?_, i2, i3, i4, i5, i6⟩
    show Model_tellField_l128 (nI q) x2 x3 x4 Mx (nI (6 * (1 - lv) + tNf T)) = _
    unfold Model_tellField_l128
    rw [e19, mb_in (by omega) (by decide), mb_gd, mb_cl (by omega), e20, l6, pk_mul, nI_add, if_pos (by rw [mb_le (by omega) (by omega)]; omega)]
