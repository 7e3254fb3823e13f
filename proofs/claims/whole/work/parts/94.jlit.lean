/-! both read a literal -/
def MDt (dv : Nat) (T : Tx) (nN : Nat → List Nat) (pd mf mp : Nat) (M : St) : Prop := gA M 0 20 dv = nI (tNf T) ∧ gL M 0 24 = lN pd ∧ gI M 0 15 = nI mf ∧ (¬ mf = 0 → gI M 0 16 = nI mp) ∧ (∀ f, f < tNf T → gB M 0 21 (6 * dv + f) = lN (encM (nN f)) ∧ gA M 0 22 (6 * dv + f) = nI (tFr T f) ∧ gA M 0 23 (6 * dv + f) = nI (tMa T f)) ∧ (∀ s, s < 5 → gA M 0 25 (5 * dv + s) = nI (tNt T s)) ∧ ∀ k, k < tNt T 1 → gA M 0 26 (40 * dv + (8 + k)) = nI (tWt T k)
def AMT (M : St) (dv ec c : Nat) (am : (Nat → Int32) → Int32) : Prop := ∃ a is f, gA M 0 29 (40 * dv + c) = nI (500 * dv + a) ∧ gA M 0 30 (40 * dv + c) = nI (500 * dv + a + is.length) ∧ a + is.length ≤ ec ∧ RCD M (500 * dv + a) is ∧ okI 6 is [] ∧ rnS is [] = [f] ∧ ∀ now old, f now old = am now
def MQd (dv : Nat) (T : Tx) (ec lc : Nat) (M : St) : Prop := (∀ s k, s < 5 → k < tNt T s → ∃ ls, CND M dv ec lc (8 * s + k) ls ∧ tCd T s k = cnB ls) ∧ ∀ k, k < tNt T 4 → AMT M dv ec (32 + k) (tAm T k)
def RB (v : Nat → Nat) (n lv : Nat) (M0 : St) (k : Nat) (T : Tx) (nN : Nat → List Nat) (pd mf mp ec lc : Nat) (M : St) : Prop := RA v n lv M0 k M ∧ gI M 0 12 = 0 ∧ gI M 0 38 = nI (500 * (1 - lv) + ec) ∧ gA M 0 31 (1 - lv) = nI lc ∧ MDt (1 - lv) T nN pd mf mp M ∧ (mf = 0 → MQd (1 - lv) T ec lc M)
/-- what a literal leaves as it was -/
def LF (dv ec lc : Nat) (M M' : St) : Prop := agZ exI [31, 32, 33, 34, 35, 36, 37, 39, 40, 42] [] M M' ∧ gL M' = gL M ∧ (∀ j, j < 200 * dv + lc → gA M' 0 32 j = gA M 0 32 j ∧ gA M' 0 33 j = gA M 0 33 j ∧ gA M' 0 34 j = gA M 0 34 j ∧ gA M' 0 35 j = gA M 0 35 j ∧ gA M' 0 36 j = gA M 0 36 j ∧ gA M' 0 37 j = gA M 0 37 j) ∧ ∀ j, j < 500 * dv + ec → gA M' 0 39 j = gA M 0 39 j ∧ gA M' 0 40 j = gA M 0 40 j
theorem LF.rf (dv ec lc : Nat) (M : St) : LF dv ec lc M M := ⟨agZ.rf M, rfl, fun _ _ => ⟨rfl, rfl, rfl, rfl, rfl, rfl⟩, fun _ _ => ⟨rfl, rfl⟩⟩
theorem LF.tr {dv ec lc ec' lc' : Nat} {A B C : St} (h1 : LF dv ec lc A B) (h2 : LF dv ec' lc' B C) (he : ec ≤ ec') (hl : lc ≤ lc') : LF dv ec lc A C := by
  refine ⟨h1.1.tr h2.1, h2.2.1.trans h1.2.1, fun j hj => ?_, fun j hj => ?_⟩
  · obtain ⟨a1, a2, a3, a4, a5, a6⟩ := h1.2.2.1 j hj
    obtain ⟨b1, b2, b3, b4, b5, b6⟩ := h2.2.2.1 j (by omega)
    exact ⟨b1.trans a1, b2.trans a2, b3.trans a3, b4.trans a4, b5.trans a5, b6.trans a6⟩
  · obtain ⟨a1, a2⟩ := h1.2.2.2 j hj
    obtain ⟨b1, b2⟩ := h2.2.2.2 j (by omega)
    exact ⟨b1.trans a1, b2.trans a2⟩
theorem RCD.lf {M M' : St} {a b : Nat} {is : List (Nat × Nat)} (h : RCD M a is) (hc : ∀ j, j < b → gA M' 0 39 j = gA M 0 39 j ∧ gA M' 0 40 j = gA M 0 40 j) (hb : a + is.length ≤ b) : RCD M' a is := by
  intro i c hi
  have hlt := (List.getElem?_eq_some_iff.mp hi).1
  obtain ⟨e1, e2⟩ := hc (a + i) (by omega)
  rw [e1, e2]
  exact h i c hi
theorem LIT.lf {M M' : St} {dv ec ec' lc q : Nat} {o : Bool} {l : BSem} (h : LIT M dv ec q o l) (a : LF dv ec lc M M') (hq : q < lc) (he : ec ≤ ec') : LIT M' dv ec' q o l := by
  obtain ⟨x, ng, f, g, b, il, ir, t1, t2, t3, t4, t5, t6, t7, t8, t9, t10, t11, t12, t13, t14, t15, t16⟩ := h
  obtain ⟨a1, a2, a3, a4, a5, a6⟩ := a.2.2.1 (200 * dv + q) (by omega)
  exact ⟨x, ng, f, g, b, il, ir, t1, t2, t3, by rw [a1]; exact t4, by rw [a2]; exact t5, by rw [a3]; exact t6, by rw [a4]; exact t7, by rw [a5]; exact t8, by rw [a6]; exact t9, by omega, t11.lf a.2.2.2 (by omega), t12.lf a.2.2.2 (by omega), t13, t14, t15, t16⟩
theorem CND.lf {M M' : St} {dv ec ec' lc lc' c : Nat} {ls : List (Bool × BSem)} (h : CND M dv ec lc c ls) (a : LF dv ec lc M M') (he : ec ≤ ec') (hl : lc ≤ lc') : CND M' dv ec' lc' c ls := by
  obtain ⟨lo, t1, t2, t3, t4⟩ := h
  refine ⟨lo, by rw [a.1.2.1 27 (by decide)]; exact t1, by rw [a.1.2.1 28 (by decide)]; exact t2, by omega, fun i o l hi => ?_⟩
  have hlt := (List.getElem?_eq_some_iff.mp hi).1
  exact (t4 i o l hi).lf a (by omega) he
theorem AMT.lf {M M' : St} {dv ec ec' lc c : Nat} {am : (Nat → Int32) → Int32} (h : AMT M dv ec c am) (a : LF dv ec lc M M') (he : ec ≤ ec') : AMT M' dv ec' c am := by
  obtain ⟨b, is, f, t1, t2, t3, t4, t5, t6, t7⟩ := h
  exact ⟨b, is, f, by rw [a.1.2.1 29 (by decide)]; exact t1, by rw [a.1.2.1 30 (by decide)]; exact t2, by omega, t4.lf a.2.2.2 (by omega), t5, t6, t7⟩
theorem MQd.lf {M M' : St} {dv ec ec' lc lc' : Nat} {T : Tx} (h : MQd dv T ec lc M) (a : LF dv ec lc M M') (he : ec ≤ ec') (hl : lc ≤ lc') : MQd dv T ec' lc' M' := by
  refine ⟨fun s k hs hk => ?_, fun k hk => (h.2 k hk).lf a he⟩
  obtain ⟨ls, t1, t2⟩ := h.1 s k hs hk
  exact ⟨ls, t1.lf a he hl, t2⟩
theorem MDt.lf {M M' : St} {dv ec lc pd mf mp mf' mp' : Nat} {T : Tx} {nN : Nat → List Nat} (h : MDt dv T nN pd mf mp M) (a : LF dv ec lc M M') (h15 : gI M' 0 15 = nI mf') (h16 : ¬ mf' = 0 → gI M' 0 16 = nI mp') : MDt dv T nN pd mf' mp' M' := by
  obtain ⟨t1, t2, t3, t4, t5, t6, t7⟩ := h
  exact ⟨by rw [a.1.2.1 20 (by decide)]; exact t1, by rw [a.2.1]; exact t2, h15, h16, by rw [a.1.2.2 21 (by decide), a.1.2.1 22 (by decide), a.1.2.1 23 (by decide)]; exact t5, by rw [a.1.2.1 25 (by decide)]; exact t6, by rw [a.1.2.1 26 (by decide)]; exact t7⟩
theorem XF.lf {dv x0 lc : Nat} {Ms M : St} (h : XF dv x0 Ms M) : LF dv x0 lc Ms M := ⟨h.1.wk (by decide) (by decide) (by decide), h.2.1, fun j _ => by rw [h.1.2.1 32 (by decide), h.1.2.1 33 (by decide), h.1.2.1 34 (by decide), h.1.2.1 35 (by decide), h.1.2.1 36 (by decide), h.1.2.1 37 (by decide)]; exact ⟨rfl, rfl, rfl, rfl, rfl, rfl⟩, h.2.2⟩
variable {v : Nat → Nat} {n lv : Nat} {S0 S M0 M : St} {T : Tx} {ex : Option Sem} {nN : Nat → List Nat} {pd mf mp cz ec lc sd so ne sl lo k st f p : Nat} {wq : Option Nat} {tl : Nat → Nat} {bo : List Nat} {bv : List Sem}
/-- a whole expression -/
theorem j_expr (h0 : TK0 v n lv M0) (hb : bOK bo) (hbv : bv.length = nbW bo) (hso : so < 6) (hC : CP v n S0 k st sd so 0 sl lo bo bv T ex nN pd mf mp cz tl wq S) (hR : RB v n lv M0 k T nN pd mf mp ec lc M) (h41 : gI M 0 41 = b2i (Nat.beq so 3)) (hst : st = 8 ∨ st = 9) (h25 : st = 8 → ¬ tK v n k = 25) (hec : ec ≤ k) (hcz : cz + pW bo ≤ k) (hD : DOK T nN mf mp) : ∃ M', f_Model_expression M = some M' ∧ (FF S0 lv M0 M' ∨ ∃ k' eo ev e mf' mp' cz' ec' S', k < k' ∧ CP v n S0 k' 11 sd so 0 sl lo (eo ++ bo) (ev ++ bv) T ex nN pd mf' mp' cz' tl wq S' ∧ RB v n lv M0 k' T nN pd mf' mp' ec' lc M' ∧ LF (1 - lv) ec lc M M' ∧ gI M' 0 41 = gI M 0 41 ∧ (mf' = 0 → mf = 0 ∧ ∃ is, ec' = ec + is.length ∧ RCD M' (500 * (1 - lv) + ec) is ∧ okI (tNf T) is [] ∧ rnS is [] = [e]) ∧ eok eo ∧ c12 eo = 0 ∧ rel 5 eo ev = ([], [e]) ∧ ec ≤ ec' ∧ ec' ≤ k' ∧ cz' + pW (eo ++ bo) ≤ k' ∧ ev.length = nbW eo + 1 ∧ DOK T nN mf' mp' ∧ ¬ tK v n k' = 5 ∧ ¬ tK v n k' = 6 ∧ ¬ tK v n k' = 7) := by
  obtain ⟨q1, q2, q3, q4, q5, q6⟩ := id hR
  obtain ⟨Ms, eMs⟩ : ∃ Ms, Ms = pI M 0 43 0 := ⟨_, rfl⟩
  have a0 : agZ [43] [] [] M Ms := by rw [eMs]; exact agZ.pI M 43 _ (by decide)
  have fr0 : FR lv M Ms := by rw [eMs]; exact FR.zI lv M 43 _ (by decide) (by decide)
  have rA : RA v n lv M0 k Ms := ⟨q1.1.tr fr0, by rw [a0.1 13 (by decide)]; exact q1.2.1, by rw [a0.1 11 (by decide)]; exact q1.2.2.1, q1.2.2.2⟩
  have hF : JF v n lv M0 Ms so bo bv T nN := ⟨h0, hb, hbv, hso, by rw [a0.1 41 (by decide)]; exact h41, by rw [a0.2.1 20 (by decide)]; exact q5.1, fun f hf => by rw [a0.2.2 21 (by decide)]; exact (q5.2.2.2.2.1 f hf).1⟩
  have e15 : gI Ms 0 15 = nI mf := by rw [a0.1 15 (by decide)]; exact q5.2.2.1
  have hX : XR v n lv M0 ec (tNf T) k [] [] ec mf mp 0 Ms Ms := ⟨rA, ⟨agZ.rf Ms, rfl, fun _ _ => ⟨rfl, rfl⟩⟩, by rw [a0.1 12 (by decide)]; exact q2, by rw [a0.1 38 (by decide)]; exact q3, ⟨Nat.le_refl ec, fun z => by rw [e15, z]; rfl⟩, e15, fun z => by rw [a0.1 16 (by decide)]; exact q5.2.2.2.1 z, by rw [eMs, gI_s]; rfl, (fun i x hi => by have hi : (none : Option Nat) = some x := hi; cases hi), fun _ => ⟨[], rfl, (fun i c hi => by have hi : (none : Option (Nat × Nat)) = some c := hi; cases hi), trivial, rfl⟩⟩
  have hJ : JX v n lv S0 M0 Ms sd so sl lo bo bv T ex nN pd tl wq ec k st 0 [] [] mf mp cz ec S Ms := ⟨hC, hX, trivial, rfl, by decide, hec, hcz, by rw [if_neg (show ¬ st = 11 by omega)]; rfl, hD, fun z => by omega⟩
  obtain ⟨M', g1, o1⟩ := j_loop hF (401 - k) (Nat.le_refl _) hJ hst h25
  refine ⟨M', ?_, ?_⟩
  · unfold f_Model_expression
    rw [mb_nm, mb_nm, ← eMs, show gI Ms 0 12 = 0 from hX.2.2.1]
    exact g1
  · rcases o1 with z | ⟨k', eo, ev, e, mf', mp', cz', ec', S', c1, c2, c3, c4, c5, c6, c7, c8, c9, c10, c11⟩
    · exact Or.inl z
    · right
      have lf1 : LF (1 - lv) ec lc M Ms := ⟨a0.wk (by decide) (by decide) (by decide), by rw [eMs]; rfl, fun j _ => by rw [a0.2.1 32 (by decide), a0.2.1 33 (by decide), a0.2.1 34 (by decide), a0.2.1 35 (by decide), a0.2.1 36 (by decide), a0.2.1 37 (by decide)]; exact ⟨rfl, rfl, rfl, rfl, rfl, rfl⟩, fun j _ => by rw [a0.2.1 39 (by decide), a0.2.1 40 (by decide)]; exact ⟨rfl, rfl⟩⟩
      have lf : LF (1 - lv) ec lc M M' := lf1.tr (c3.2.1.lf (lc := lc)) (Nat.le_refl _) (Nat.le_refl _)
      have hm0 : mf' = 0 → mf = 0 := by
        intro z
        have := c3.2.2.2.2.1.2 z
        rw [e15, l0, mb_eq (by have := hD.2.2.1; omega) (by decide)] at this
        exact this
      have e31 : gA M' 0 31 (1 - lv) = nI lc := by rw [c3.2.1.1.2.1 31 (by decide), a0.2.1 31 (by decide)]; exact q4
      refine ⟨k', eo, ev, e, mf', mp', cz', ec', S', c1, c2, ⟨c3.1, by rw [c3.2.2.1]; rfl, c3.2.2.2.1, e31, q5.lf lf c3.2.2.2.2.2.1 c3.2.2.2.2.2.2.1, fun z => (q6 (hm0 z)).lf lf c3.2.2.2.2.1.1 (Nat.le_refl _)⟩, lf, lf.1.1 41 (by decide), fun z => ⟨hm0 z, c3.2.2.2.2.2.2.2.2.2 z⟩, c4, c5, c6, c3.2.2.2.2.1.1, c7, c8, c9, c10, c11⟩
/-- nots in a row -/
def ngL (ng : Bool) (b0 : List Nat) : List Nat := cond ng (25 :: b0) b0
theorem RB.nx (h : RB v n lv M0 k T nN pd mf mp ec lc M) (hA : RA v n lv M0 (k + 1) (pI M 0 11 (nI (k + 1)))) : RB v n lv M0 (k + 1) T nN pd mf mp ec lc (pI M 0 11 (nI (k + 1))) ∧ LF (1 - lv) ec lc M (pI M 0 11 (nI (k + 1))) := by
  obtain ⟨q1, q2, q3, q4, q5, q6⟩ := h
  have a : agZ [11] [] [] M (pI M 0 11 (nI (k + 1))) := agZ.pI M 11 _ (by decide)
  have lf : LF (1 - lv) ec lc M (pI M 0 11 (nI (k + 1))) := ⟨a.wk (by decide) (by decide) (by decide), rfl, fun _ _ => ⟨rfl, rfl, rfl, rfl, rfl, rfl⟩, fun _ _ => ⟨rfl, rfl⟩⟩
  exact ⟨⟨hA, by rw [a.1 12 (by decide)]; exact q2, by rw [a.1 38 (by decide)]; exact q3, q4, q5.lf lf (by rw [a.1 15 (by decide)]; exact q5.2.2.1) (fun z => by rw [a.1 16 (by decide)]; exact q5.2.2.2.1 z), fun z => (q6 z).lf lf (Nat.le_refl _) (Nat.le_refl _)⟩, lf⟩
theorem j_nots (h0 : TK0 v n lv M0) (hb : bo.length ≤ 3) (h25 : ¬ bo.headD 0 = 25) (x4 : Int32) : ∀ (d : Nat) {k cz : Nat} {ng : Bool} {S M : St}, 401 - k ≤ d → CP v n S0 k 8 sd so 0 sl lo (ngL ng bo) bv T ex nN pd mf mp cz tl wq S → RB v n lv M0 k T nN pd mf mp ec lc M → cz + pW (ngL ng bo) ≤ k → ∃ r, wh (un2 (Model_literal_l2 x4)) (M, b2i ng) = some r ∧ (FF S0 lv M0 r.1 ∨ ∃ k' ng' S', k ≤ k' ∧ r.2 = b2i ng' ∧ CP v n S0 k' 8 sd so 0 sl lo (ngL ng' bo) bv T ex nN pd mf mp cz tl wq S' ∧ RB v n lv M0 k' T nN pd mf mp ec lc r.1 ∧ LF (1 - lv) ec lc M r.1 ∧ gI r.1 0 41 = gI M 0 41 ∧ cz + pW (ngL ng' bo) ≤ k' ∧ ¬ tK v n k' = 25)
  | 0, k, cz, ng, S, M, hd, hC, hR, _ => by
    have := hR.1.2.2.2.1
    omega
  | d + 1, k, cz, ng, S, M, hd, hC, hR, hcz => by
    have hk := hR.1.2.2.2.1
    have his : f_Model_is M 31 = _ := r_is hR.1 h0 (x := 25) (by decide)
    by_cases c : tK v n k = 25
    · have hlen : (ngL ng bo).length < 40 := by
        cases ng
        · show bo.length < 40; omega
        · show bo.length + 1 < 40; omega
      have hO := cs_not hC hk c hlen
      have hw : (if (ngL ng bo).headD 0 = 25 then (ngL ng bo).tail else 25 :: ngL ng bo) = ngL (!ng) bo := by
        cases ng with
        | false => show (if bo.headD 0 = 25 then bo.tail else 25 :: bo) = 25 :: bo; rw [if_neg h25]
        | true => rfl
      rw [hw] at hO
      have step : ∀ M2, f_Model_next M = some M2 → Model_literal_l2 x4 M (b2i ng) = some (.inl (M2, b2i (!ng))) := by
        intro M2 g2
        unfold Model_literal_l2 Model_literal_j20_l2
        rw [his, mb_bd, c, Nat.beq_refl, if_neg (by decide), g2, mb_bd, mb_bd]
        cases ng
        · rw [if_pos (by rfl)]; rfl
        · rw [if_neg (by decide)]; rfl
      rcases r_next hR.1 h0 (by rw [c]; decide) with ⟨e, M2, g2, f2⟩ | ⟨e, g2, r2⟩
      · have fo : FOc S0 2 (tP v n k) := by
          rcases hO with ⟨-, z⟩ | ⟨z, -⟩
          · exact z
          · omega
        refine ⟨(M2, b2i (!ng)), ?_, Or.inl ⟨2, _, Or.inl fo, f2⟩⟩
        rw [wh_inl (t := (M2, b2i (!ng))) (step M2 g2)]
        refine wh_inr ?_
        show Model_literal_l2 x4 M2 (b2i (!ng)) = _
        unfold Model_literal_l2
        rw [f_is f2, mb_bd, if_pos rfl]
      · rcases hO with ⟨z, -⟩ | ⟨-, S1, hS1⟩
        · omega
        obtain ⟨hR1, lf1⟩ := hR.nx r2
        have hp : cz + pW (ngL (!ng) bo) ≤ k + 1 := by
          cases ng with
          | false =>
            have hcz : cz + pW bo ≤ k := hcz
            show cz + (pW bo + 1) ≤ k + 1
            omega
          | true =>
            have hcz : cz + (pW bo + 1) ≤ k := hcz
            show cz + pW bo ≤ k + 1
            omega
        obtain ⟨r, g3, o3⟩ := j_nots h0 hb h25 x4 d (by omega) hS1 hR1 hp
        refine ⟨r, by rw [wh_inl (t := (pI M 0 11 (nI (k + 1)), b2i (!ng))) (step _ g2)]; exact g3, ?_⟩
        rcases o3 with z | ⟨k', ng', S', z1, z2, z3, z4, z5, z6, z7⟩
        · exact Or.inl z
        · exact Or.inr ⟨k', ng', S', by omega, z2, z3, z4, lf1.tr z5 (Nat.le_refl _) (Nat.le_refl _), z6.trans (gI_n _ _ (fun z => by omega)), z7⟩
    · refine ⟨(M, b2i ng), wh_inr ?_, Or.inr ⟨k, ng, S, Nat.le_refl k, rfl, hC, hR, LF.rf _ _ _ M, rfl, hcz, c⟩⟩
      show Model_literal_l2 x4 M (b2i ng) = _
      unfold Model_literal_l2
      rw [his, mb_bd, beq_f c, if_pos (by rfl)]
