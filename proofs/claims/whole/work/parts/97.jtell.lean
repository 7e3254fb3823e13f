/-! both read a tell that is no field -/
variable {v : Nat → Nat} {n lv : Nat} {S0 S M0 M M' : St} {T : Tx} {ex : Option Sem} {nN : Nat → List Nat} {pd mf mp cz ec lc sd so ne sl lo k st f p c w : Nat} {wq : Option Nat} {tl : Nat → Nat} {wl bo : List Nat} {vl bv : List Sem} {b : BSem} {am : (Nat → Int32) → Int32}
theorem LIT.eq {q : Nat} {o : Bool} {l : BSem} {dv : Nat} (h : LIT M dv ec q o l) (he : ∀ x, x ∈ [32, 33, 34, 35, 36, 37, 39, 40] → gA M' 0 x = gA M 0 x) : LIT M' dv ec q o l := by
  unfold LIT RCD at *
  rw [he 32 (by decide), he 33 (by decide), he 34 (by decide), he 35 (by decide), he 36 (by decide), he 37 (by decide), he 39 (by decide), he 40 (by decide)]
  exact h
def cOK (T : Tx) (c : Nat) : Prop := ∀ s k, s < 5 → k < tNt T s → ¬ 8 * s + k = c
theorem cOK_new (hso : so < 5) (h8 : tNt T so < 8) (hN : ∀ s, s < 5 → tNt T s ≤ 8) : cOK T (8 * so + tNt T so) := by
  intro s k hs hk e
  have := hN s hs
  by_cases z : s = so
  · subst z; omega
  · omega
theorem RB.put (h : RB v n lv M0 k T nN pd mf mp ec lc M) (hc : cOK T c) (fr : FR lv M M') (a : agZ [41] [26, 27, 29, 30] [] M M') (hl : gL M' = gL M) (hj : ∀ j, ¬ j = 40 * (1 - lv) + c → gA M' 0 26 j = gA M 0 26 j ∧ gA M' 0 27 j = gA M 0 27 j ∧ gA M' 0 29 j = gA M 0 29 j ∧ gA M' 0 30 j = gA M 0 30 j) : RB v n lv M0 k T nN pd mf mp ec lc M' := by
  obtain ⟨q1, q2, q3, q4, ⟨t1, t2, t3, t4, t5, t6, t7⟩, q6⟩ := h
  refine ⟨⟨q1.1.tr fr, by rw [a.1 13 (by decide)]; exact q1.2.1, by rw [a.1 11 (by decide)]; exact q1.2.2.1, q1.2.2.2⟩, by rw [a.1 12 (by decide)]; exact q2, by rw [a.1 38 (by decide)]; exact q3, by rw [a.2.1 31 (by decide)]; exact q4, ⟨by rw [a.2.1 20 (by decide)]; exact t1, by rw [hl]; exact t2, by rw [a.1 15 (by decide)]; exact t3, fun z => by rw [a.1 16 (by decide)]; exact t4 z, by rw [a.2.2 21 (by decide), a.2.1 22 (by decide), a.2.1 23 (by decide)]; exact t5, by rw [a.2.1 25 (by decide)]; exact t6, fun k hk => ?_⟩, fun z => ⟨fun s k hs hk => ?_, fun k hk => ?_⟩⟩
  · have := hc 1 k (by decide) hk
    rw [(hj (40 * (1 - lv) + (8 + k)) (by omega)).1]
    exact t7 k hk
  · obtain ⟨ls, ⟨lo, u1, u2, u3, u4⟩, u5⟩ := (q6 z).1 s k hs hk
    have := hc s k hs hk
    refine ⟨ls, ⟨lo, by rw [(hj (40 * (1 - lv) + (8 * s + k)) (by omega)).2.1]; exact u1, by rw [a.2.1 28 (by decide)]; exact u2, u3, fun i o l hi => (u4 i o l hi).eq (fun x hx => a.2.1 x (fun y => ?_))⟩, u5⟩
    revert hx y
    revert x
    decide
  · obtain ⟨x, is, f, u1, u2, u3, u4, u5, u6, u7⟩ := (q6 z).2 k hk
    have := hc 4 k (by decide) hk
    have hne : ¬ 40 * (1 - lv) + (32 + k) = 40 * (1 - lv) + c := by omega
    refine ⟨x, is, f, by rw [(hj _ hne).2.2.1]; exact u1, by rw [(hj _ hne).2.2.2]; exact u2, u3, ?_, u5, u6, u7⟩
    unfold RCD
    rw [a.2.1 39 (by decide), a.2.1 40 (by decide)]
    exact u4
theorem tNt_addC (s : Nat) : tNt (addC T so b w am) s = if s = so then tNt T so + 1 else tNt T s := rfl
theorem tWt_addC (q : Nat) : tWt (addC T so b w am) q = if so = 1 ∧ q = tNt T 1 then w else tWt T q := rfl
theorem tCd_addC (s q : Nat) : tCd (addC T so b w am) s q = fun now old => if s = so ∧ q = tNt T so then b now old else tCd T s q now old := rfl
theorem tAm_addC (q : Nat) : tAm (addC T so b w am) q = fun now => if so = 4 ∧ q = tNt T 4 then am now else tAm T q now := rfl
theorem tCd_new : tCd (addC T so b w am) so (tNt T so) = b := by
  rw [tCd_addC]
  funext now old
  rw [if_pos ⟨rfl, rfl⟩]
theorem tCd_old {s q : Nat} (h : ¬ (s = so ∧ q = tNt T so)) : tCd (addC T so b w am) s q = tCd T s q := by
  rw [tCd_addC]
  funext now old
  rw [if_neg h]
/-- the reference ends a tell -/
theorem r_fin (hlv : lv < 2) (hso : so < 5) (h8 : tNt T so < 8) (hN : ∀ s, s < 5 → tNt T s ≤ 8) {lc0 : Nat} {ls : List (Bool × BSem)} (hlc : lc = lc0 + ls.length) (h : RB v n lv M0 k T nN pd mf mp ec lc M) (h27 : gA M 0 27 (40 * (1 - lv) + (8 * so + tNt T so)) = nI lc0) (hls : mf = 0 → ∀ i o l, ls[i]? = some (o, l) → LIT M (1 - lv) ec (lc0 + i) o l) (h26 : so = 1 → gA M 0 26 (40 * (1 - lv) + (8 * so + tNt T so)) = nI w) (hA : so = 4 → mf = 0 → AMT M (1 - lv) ec (32 + tNt T 4) am) : RB v n lv M0 k (addC T so (cnB ls) w am) nN pd mf mp ec lc (pA (pA M 0 28 (40 * (1 - lv) + (8 * so + tNt T so)) (nI lc)) 0 25 (5 * (1 - lv) + so) (nI (tNt T so + 1))) := by
  obtain ⟨M', eM⟩ : ∃ M', M' = pA (pA M 0 28 (40 * (1 - lv) + (8 * so + tNt T so)) (nI lc)) 0 25 (5 * (1 - lv) + so) (nI (tNt T so + 1)) := ⟨_, rfl⟩
  rw [← eM]
  obtain ⟨q1, q2, q3, q4, ⟨t1, t2, t3, t4, t5, t6, t7⟩, q6⟩ := h
  have a : agZ [] [25, 28] [] M M' := by rw [eM]; exact (agZ.pA M 28 _ _ (by decide)).tr (agZ.pA _ 25 _ _ (by decide))
  have fr : FR lv M M' := by rw [eM]; exact (FR.zA hlv M 28 40 (8 * so + tNt T so) _ (by decide) (by decide) (by omega) rfl).tr (FR.zA hlv _ 25 5 so _ (by decide) (by decide) hso rfl)
  have f28 : ∀ j, ¬ j = 40 * (1 - lv) + (8 * so + tNt T so) → gA M' 0 28 j = gA M 0 28 j := by
    intro j hj
    rw [eM, gA_n _ _ (fun z => by omega), gA_n _ _ (fun z => hj z.2.2)]
  have f28s : gA M' 0 28 (40 * (1 - lv) + (8 * so + tNt T so)) = nI lc := by rw [eM, gA_n _ _ (fun z => by omega), gA_s]
  have hcn := cOK_new hso h8 hN
  refine ⟨⟨q1.1.tr fr, by rw [a.1 13 (by decide)]; exact q1.2.1, by rw [a.1 11 (by decide)]; exact q1.2.2.1, q1.2.2.2⟩, by rw [a.1 12 (by decide)]; exact q2, by rw [a.1 38 (by decide)]; exact q3, by rw [a.2.1 31 (by decide)]; exact q4, ⟨by rw [a.2.1 20 (by decide)]; exact t1, by rw [eM]; exact t2, by rw [a.1 15 (by decide)]; exact t3, fun z => by rw [a.1 16 (by decide)]; exact t4 z, by rw [a.2.2 21 (by decide), a.2.1 22 (by decide), a.2.1 23 (by decide)]; exact t5, fun s hs => ?_, fun q hq => ?_⟩, fun z => ⟨fun s q hs hq => ?_, fun q hq => ?_⟩⟩
  · rw [tNt_addC]
    by_cases e : s = so
    · rw [if_pos e, e, eM, gA_s]
    · rw [if_neg e, eM, gA_n _ _ (fun z => by omega), gA_n _ _ (fun z => by omega)]
      exact t6 s hs
  · rw [a.2.1 26 (by decide), tWt_addC]
    rw [tNt_addC] at hq
    by_cases e : so = 1 ∧ q = tNt T 1
    · obtain ⟨e1, e2⟩ := e
      rw [if_pos ⟨e1, e2⟩, ← h26 e1, e1, e2]
    · rw [if_neg e]
      refine t7 q ?_
      by_cases e1 : 1 = so
      · rw [if_pos e1, ← e1] at hq
        have : ¬ q = tNt T 1 := fun e2 => e ⟨e1.symm, e2⟩
        omega
      · rw [if_neg e1] at hq
        exact hq
  · have he : ∀ x, x ∈ [32, 33, 34, 35, 36, 37, 39, 40] → gA M' 0 x = gA M 0 x := fun x hx => a.2.1 x (fun y => by revert hx y; revert x; decide)
    by_cases e : s = so ∧ q = tNt T so
    · obtain ⟨rfl, rfl⟩ := e
      refine ⟨ls, ⟨lc0, by rw [a.2.1 27 (by decide)]; exact h27, by rw [f28s, hlc], by omega, fun i o l hi => (hls z i o l hi).eq he⟩, tCd_new⟩
    · have hq2 : q < tNt T s := by
        rw [tNt_addC] at hq
        by_cases e1 : s = so
        · rw [if_pos e1] at hq
          have : ¬ q = tNt T so := fun e2 => e ⟨e1, e2⟩
          rw [e1]
          omega
        · rw [if_neg e1] at hq
          exact hq
      have := hcn s q hs hq2
      obtain ⟨ls', ⟨lo, u1, u2, u3, u4⟩, u5⟩ := (q6 z).1 s q hs hq2
      exact ⟨ls', ⟨lo, by rw [a.2.1 27 (by decide)]; exact u1, by rw [f28 _ (by omega)]; exact u2, u3, fun i o l hi => (u4 i o l hi).eq he⟩, by rw [tCd_old e]; exact u5⟩
  · have key : ∀ am', AMT M (1 - lv) ec (32 + q) am' → AMT M' (1 - lv) ec (32 + q) am' := by
      intro am' hh
      unfold AMT RCD at *
      rw [a.2.1 29 (by decide), a.2.1 30 (by decide), a.2.1 39 (by decide), a.2.1 40 (by decide)]
      exact hh
    rw [tNt_addC] at hq
    by_cases e : so = 4 ∧ q = tNt T 4
    · obtain ⟨e1, e2⟩ := e
      have e3 : tAm (addC T so (cnB ls) w am) q = am := by
        rw [tAm_addC]
        funext now
        rw [if_pos ⟨e1, e2⟩]
      rw [e3]
      refine key am ?_
      rw [e2]
      exact hA e1 z
    · have e3 : tAm (addC T so (cnB ls) w am) q = tAm T q := by
        rw [tAm_addC]
        funext now
        rw [if_neg e]
      rw [e3]
      refine key _ ((q6 z).2 q ?_)
      by_cases e1 : 4 = so
      · rw [if_pos e1, ← e1] at hq
        have : ¬ q = tNt T 4 := fun e2 => e ⟨e1.symm, e2⟩
        omega
      · rw [if_neg e1] at hq
        exact hq
/-- the sign that ends a tell, on both sides -/
theorem j_semi (h0 : TK0 v n lv M0) (hC : CP v n S0 k 11 sd so 0 sl lo wl vl T ex nN pd mf mp cz tl wq S) (hR : RB v n lv M0 k T nN pd mf mp ec lc M) (hD : DOK T nN mf mp) (hvl : vl.length = nbW wl + 1) (hK : ¬ tK v n k = 5 ∧ ¬ tK v n k = 6 ∧ ¬ tK v n k = 7) (hc : (sd = 0 ∧ ¬ tK v n k = 22) ∨ (sd = 2 ∧ ¬ tK v n k = 23 ∧ ¬ tK v n k = 24)) : (∃ M', f_Model_must M 8 = some M' ∧ FF S0 lv M0 M') ∨ (f_Model_must M 8 = some (pI M 0 11 (nI (k + 1))) ∧ RB v n lv M0 (k + 1) T nN pd mf mp ec lc (pI M 0 11 (nI (k + 1))) ∧ ∃ S', CP v n S0 (k + 1) 0 sd so 0 sl lo (rel 1 wl vl).1 (rel 1 wl vl).2 T ex nN pd mf mp (cz + (wl.length - (rel 1 wl vl).1.length)) tl wq S') := by
  have hk := hR.1.2.2.2.1
  rcases r_must hR.1 h0 (x := 4) (by decide) (by decide) with ⟨e, M1, g1, f1⟩ | ⟨e, ek, M1, g1, f1⟩ | ⟨e, ek, g1, r1⟩
  · refine Or.inl ⟨M1, g1, 1, _, ?_, f1⟩
    by_cases z : tK v n k = 0
    · exact cl_endx hC.1 hk hC.2.2.1 hC.2.1 (by decide) (by decide) z
    · refine Or.inl (cs_exref hC hk hD hvl ⟨z, hK⟩ ?_)
      rcases hc with ⟨c1, c2⟩ | ⟨c1, c2, c3⟩
      · exact Or.inl ⟨c1, c2, e⟩
      · exact Or.inr (Or.inr ⟨c1, c2, c3, e⟩)
  · refine Or.inl ⟨M1, g1, 2, _, Or.inl ?_, f1⟩
    rcases cs_semi hC hk hD (by omega) e hvl with ⟨-, z⟩ | ⟨z, -⟩
    · exact z
    · omega
  · refine Or.inr ⟨g1, (hR.nx r1).1, ?_⟩
    rcases cs_semi hC hk hD (by omega) e hvl with ⟨z, -⟩ | ⟨-, z⟩
    · omega
    · exact z
/-- the class ends a tell -/
theorem c_fin {lo' : Nat} (h : CP v n S0 k 0 sd so 0 sl lo wl vl T ex nN pd mf mp cz (tlU T so) wq S) (hw : so = 1 → wq = some w) (hW : CW0 (addC T so b w am) lo' mf cz S) (hlo : lo' = tNt (addC T so b w am) 4) : CPz v n S0 k 0 (tNt (addC T so b w am) 4) (addC T so b w am) nN pd mf mp cz S := by
  obtain ⟨h1, h2, g1, g2, g3, g4, g5, g6, g7, g8, g9⟩ := h
  refine ⟨h1, h2, g1, g2, g5, ⟨g6.1, g6.2.1, g6.2.2.1, g6.2.2.2.1, g6.2.2.2.2.1, fun q hq => ?_⟩, fun s hs => ?_, by rw [← hlo]; exact hW⟩
  · rw [tNt_addC] at hq
    rw [tWt_addC]
    by_cases e : so = 1 ∧ q = tNt T 1
    · rw [if_pos e, e.2]
      exact g8 w (hw e.1)
    · rw [if_neg e]
      refine g6.2.2.2.2.2 q ?_
      by_cases e1 : 1 = so
      · rw [if_pos e1, ← e1] at hq
        have : ¬ q = tNt T 1 := fun e2 => e ⟨e1.symm, e2⟩
        omega
      · rw [if_neg e1] at hq
        exact hq
  · rw [tNt_addC, g7 s hs]
    unfold tlU
    by_cases e : s = so
    · rw [if_pos e, if_pos e, e]
    · rw [if_neg e, if_neg e]
/-- the last rows of a tell, in the reference -/
theorem j_347 (hlv : lv < 2) (h19 : gI M0 0 19 = nI (1 - lv)) (hso : so < 5) (h8 : tNt T so < 8) (hg : f_Model_must M 8 = some M') (hR : RB v n lv M0 k T nN pd mf mp ec lc M') : Model_tell_j347 M (nI so) (nI (40 * (1 - lv) + (8 * so + tNt T so))) = some (pA (pA M' 0 28 (40 * (1 - lv) + (8 * so + tNt T so)) (nI lc)) 0 25 (5 * (1 - lv) + so) (nI (tNt T so + 1))) := by
  have e19 : gI M' 0 19 = nI (1 - lv) := by rw [hR.1.1.i 19 (by decide)]; exact h19
  have e31 : gA M' 0 31 (1 - lv) = nI lc := hR.2.2.2.1
  have e25 := hR.2.2.2.2.1.2.2.2.2.2.1 so hso
  unfold Model_tell_j347
  rw [hg, mb_bd, hR.1.2.1, if_pos (by decide), e19, mb_in (by omega) (by decide), mb_gd, mb_in (by omega) (by decide), mb_gd, mb_nm, mb_cl (by omega), mb_cl (by omega), e31, mb_IA, e19, show (5 : Int32) = nI 5 from rfl, pk_mul, nI_add, mb_in (by omega) (by decide), mb_gd, mb_gd, mb_nm, mb_cl (by omega), gA_n _ _ (fun z => by omega), e25, nI_1]
/-- a condition, and the end of its tell -/
theorem j_288 (h0 : TK0 v n lv M0) (hso : so < 5) (h8 : tNt T so < 8) (hN : ∀ s, s < 5 → tNt T s ≤ 8) (hC : CP v n S0 k 8 1 so 0 sl lo [] [] T ex nN pd mf mp cz tl wq S) (hR : RB v n lv M0 k T nN pd mf mp ec lc M) (h41 : gI M 0 41 = b2i (Nat.beq so 3)) (hec : ec ≤ k) (hlc : 3 * lc ≤ k) (hcz : cz ≤ k) (hD : DOK T nN mf mp) (h27 : gA M 0 27 (40 * (1 - lv) + (8 * so + tNt T so)) = nI lc) (h26 : so = 1 → gA M 0 26 (40 * (1 - lv) + (8 * so + tNt T so)) = nI w) (hA : so = 4 → mf = 0 → AMT M (1 - lv) ec (32 + tNt T 4) am) : ∃ M', Model_tell_j288 M (nI so) (nI (40 * (1 - lv) + (8 * so + tNt T so))) 1 = some M' ∧ (FF S0 lv M0 M' ∨ ∃ k' ls mf' mp' cz' ec' lc' S', k < k' ∧ CP v n S0 k' 0 2 so 0 sl lo [] [fun now old => b2i (cnB ls now old)] T ex nN pd mf' mp' cz' tl wq S' ∧ RB v n lv M0 k' (addC T so (cnB ls) w am) nN pd mf' mp' ec' lc' M' ∧ (mf' = 0 → mf = 0) ∧ ec' ≤ k' ∧ 3 * lc' ≤ k' ∧ cz' ≤ k' ∧ DOK T nN mf' mp') := by
  have hlv := h0.1
  obtain ⟨M1, g1, o1⟩ := j_cond h0 (by omega) (nI so) (nI (40 * (1 - lv) + (8 * so + tNt T so))) lc (401 - k) (ls := []) (o := true) (bo := []) (bv := []) (Nat.le_refl _) (Or.inl ⟨rfl, rfl, rfl, rfl⟩) hC hR h41 hec hlc (show cz + 0 ≤ k by omega) hD (fun _ i o l hi => by have hi : (none : Option (Bool × BSem)) = some (o, l) := hi; cases hi)
  have g1 : wh (un3 (Model_tell_l291 (nI so) (nI (40 * (1 - lv) + (8 * so + tNt T so))))) (M, (1 : Int32), (1 : Int32)) = some M1 := g1
  unfold Model_tell_j288
  rw [g1, mb_bd]
  rcases o1 with ⟨f, p, fo, fm⟩ | ⟨k1, ls, wl, vl, mf1, mp1, cz1, ec1, S1, y1, y2, y3, y4, y5, y6, y7, y8, y9, y10, y11, y12, y13, y14, y15, y16, y17, y18, y19⟩
  · exact ⟨M1, f_tell347 fm _ _, Or.inl ⟨f, p, fo, fm⟩⟩
  rcases j_semi h0 y3 y4 y14 y9 ⟨y15, y16, y17⟩ (Or.inr ⟨rfl, y18, y19⟩) with ⟨M2, g2, f, p, fo, fm⟩ | ⟨g2, hR2, S2, hS2⟩
  · refine ⟨M2, ?_, Or.inl ⟨f, p, fo, fm⟩⟩
    unfold Model_tell_j347
    rw [g2, mb_bd, if_neg fm.nz.2]
  · rw [y8, acO_cn y2] at hS2
    have a2 : agZ [11] [] [] M1 (pI M1 0 11 (nI (k1 + 1))) := agZ.pI M1 11 _ (by decide)
    have lf2 : LF (1 - lv) ec1 (lc + ls.length) M1 (pI M1 0 11 (nI (k1 + 1))) := ⟨a2.wk (by decide) (by decide) (by decide), rfl, fun _ _ => ⟨rfl, rfl, rfl, rfl, rfl, rfl⟩, fun _ _ => ⟨rfl, rfl⟩⟩
    have e27 : gA (pI M1 0 11 (nI (k1 + 1))) 0 27 = gA M 0 27 := by rw [lf2.1.2.1 27 (by decide), y5.1.2.1 27 (by decide)]
    have e26 : gA (pI M1 0 11 (nI (k1 + 1))) 0 26 = gA M 0 26 := by rw [lf2.1.2.1 26 (by decide), y5.1.2.1 26 (by decide)]
    refine ⟨_, j_347 hlv h0.2.2.1 hso h8 g2 hR2, Or.inr ⟨k1 + 1, ls, mf1, mp1, _, ec1, _, S2, by omega, hS2, r_fin (w := w) (am := am) hlv hso h8 hN (lc0 := lc) rfl hR2 (by rw [e27]; exact h27) (fun z i o l hi => ((y7 z).2 i o l hi).lf lf2 (by have := (List.getElem?_eq_some_iff.mp hi).1; omega) (Nat.le_refl _)) (fun z => by rw [e26]; exact h26 z) (fun z1 z2 => ((hA z1 (y7 z2).1).lf y5 y10).lf lf2 (Nat.le_refl _)), fun z => (y7 z).1, by omega, by omega, ?_, y14⟩⟩
    show cz1 + (wl.length - 0) ≤ k1 + 1
    omega
