/-! both read a literal, a condition -/
variable {v : Nat → Nat} {n lv : Nat} {S0 S M0 M : St} {T : Tx} {ex : Option Sem} {nN : Nat → List Nat} {pd mf mp cz ec lc sd so ne sl lo k st f p : Nat} {wq : Option Nat} {tl : Nat → Nat} {bo : List Nat} {bv : List Sem}
theorem f_j84 (h : FM lv M0 f p M) (x1 x2 x3 x4 : Int32) : ∃ M', Model_literal_j84 M x1 x2 x3 x4 = some M' ∧ FM lv M0 f p M' := by
  obtain ⟨M2, g2, h2, -⟩ := f_next h
  obtain ⟨M3, g3, h3, -⟩ := f_expr h2
  unfold Model_literal_j84
  rw [g2, mb_bd, mb_nm, g3, mb_bd, if_neg h3.nz.2]
  exact ⟨M3, rfl, h3⟩
theorem f_j59 (h : FM lv M0 f p M) (x1 x2 x3 x4 : Int32) : ∃ M', Model_literal_j59 M x1 x2 x3 x4 = some M' ∧ FM lv M0 f p M' := by
  unfold Model_literal_j59
  rw [if_neg h.nz.1]
  exact f_j84 h x1 x2 x3 x4
def bo2 (bo : List Nat) : Prop := bo.length ≤ 2 ∧ ∀ x ∈ bo, x = 24 ∨ x = 23
theorem bo2_ok {bo : List Nat} (h : bo2 bo) (ng : Bool) : bOK (ngL ng bo) ∧ nbW (ngL ng bo) = nbW bo ∧ (ngL ng bo).length ≤ 3 ∧ ∀ x ∈ ngL ng bo, tg x ≤ 3 := by
  have hx : ∀ x ∈ ngL ng bo, x = 24 ∨ x = 23 ∨ x = 25 := by
    intro x hx
    cases ng with
    | false => rcases h.2 x hx with z | z
               · exact Or.inl z
               · exact Or.inr (Or.inl z)
    | true =>
      rcases List.mem_cons.mp hx with z | z
      · exact Or.inr (Or.inr z)
      · rcases h.2 x z with z | z
        · exact Or.inl z
        · exact Or.inr (Or.inl z)
  have hl : (ngL ng bo).length ≤ 3 := by
    have := h.1
    cases ng with
    | false => show bo.length ≤ 3; omega
    | true => show bo.length + 1 ≤ 3; omega
  refine ⟨⟨by omega, fun x hxm => ?_⟩, by cases ng <;> rfl, hl, fun x hxm => ?_⟩
  · rcases hx x hxm with rfl | rfl | rfl
    · exact ⟨by decide, by decide, Or.inl rfl⟩
    · exact ⟨by decide, by decide, Or.inl rfl⟩
    · exact ⟨by decide, by decide, Or.inr rfl⟩
  · rcases hx x hxm with rfl | rfl | rfl <;> decide
theorem rel_pW {t : Nat} (ht : 1 ≤ t) : ∀ (wl : List Nat) (vl : List Sem), pW (rel t wl vl).1 + (wl.length - (rel t wl vl).1.length) = pW wl ∧ (rel t wl vl).1.length ≤ wl.length
  | [], _ => ⟨rfl, Nat.le_refl _⟩
  | x :: r, vl => by
    have e : rel t (x :: r) vl = if tg x < t then (x :: r, vl) else rel t r (stI (x, 0) vl) := rfl
    rw [e]
    by_cases c : tg x < t
    · rw [if_pos c]
      exact ⟨by rw [Nat.sub_self]; rfl, Nat.le_refl _⟩
    · rw [if_neg c]
      obtain ⟨i1, i2⟩ := rel_pW ht r (stI (x, 0) vl)
      have hx : Nat.beq x 12 = false := beq_f (fun z => by
        subst z
        exact c (show 0 < t by omega))
      refine ⟨?_, by show _ ≤ r.length + 1; omega⟩
      show _ + (r.length + 1 - _) = pW r + cond (Nat.beq x 12) 0 1
      rw [hx]
      show _ = pW r + 1
      omega
theorem mk_cmp : ∀ x, x < 27 → (8 ≤ x ∧ x ≤ 11 → nI (mk x) - 4 = nI (x - 8)) ∧ (¬ (8 ≤ x ∧ x ≤ 11) → nI (mk x) - 4 < 0 ∨ ¬ nI (mk x) - 4 ≤ 3) := by decide
theorem nI_lit4 (x : Nat) (h : x ≤ 11) : ¬ nI (x - 8) < 0 ∧ nI (x - 8) ≤ 3 := ⟨nI_pos (by omega), by rw [l3, mb_le (by omega) (by omega)]; omega⟩
theorem j_lit (h0 : TK0 v n lv M0) (hbo : bo2 bo) (hbv : bv.length = nbW bo) (hso : so < 6) (hC : CP v n S0 k 8 1 so 0 sl lo bo bv T ex nN pd mf mp cz tl wq S) (hR : RB v n lv M0 k T nN pd mf mp ec lc M) (h41 : gI M 0 41 = b2i (Nat.beq so 3)) (hec : ec ≤ k) (hlc : 3 * lc ≤ k) (hcz : cz + pW bo ≤ k) (hD : DOK T nN mf mp) (o : Bool) : ∃ M', f_Model_literal M (b2i o) = some M' ∧ (FF S0 lv M0 M' ∨ ∃ k' x ng fS gS eo ev mf' mp' cz' ec' S', k < k' ∧ CP v n S0 k' 11 2 so 0 sl lo (eo ++ x :: ngL ng bo) (ev ++ fS :: bv) T ex nN pd mf' mp' cz' tl wq S' ∧ RB v n lv M0 k' T nN pd mf' mp' ec' (lc + 1) M' ∧ LF (1 - lv) ec lc M M' ∧ gI M' 0 41 = gI M 0 41 ∧ (mf' = 0 → mf = 0 ∧ LIT M' (1 - lv) ec' lc o (litB x ng fS gS)) ∧ 8 ≤ x ∧ x ≤ 11 ∧ eok eo ∧ c12 eo = 0 ∧ rel 5 eo ev = ([], [gS]) ∧ ec ≤ ec' ∧ ec' ≤ k' ∧ 3 * (lc + 1) ≤ k' ∧ cz' + pW (eo ++ x :: ngL ng bo) ≤ k' ∧ ev.length = nbW eo + 1 ∧ DOK T nN mf' mp' ∧ ¬ tK v n k' = 5 ∧ ¬ tK v n k' = 6 ∧ ¬ tK v n k' = 7) := by
  have hlv := h0.1
  have hh25 : ¬ bo.headD 0 = 25 := by
    cases bo with
    | nil => decide
    | cons x r =>
      show ¬ x = 25
      rcases hbo.2 x List.mem_cons_self with z | z <;> omega
  obtain ⟨r1, g1, o1⟩ := j_nots (bo := bo) h0 (by have := hbo.1; omega) hh25 (b2i o) (401 - k) (ng := false) (Nat.le_refl _) hC hR hcz
  obtain ⟨M1, x2⟩ := r1
  dsimp only at o1
  unfold f_Model_literal
  have g1 : wh (un2 (Model_literal_l2 (b2i o))) (M, (0 : Int32)) = some (M1, x2) := g1
  rw [g1, mb_bd2, mb_nm]
  rcases o1 with ⟨f, p, fo, fm⟩ | ⟨k1, ng, S1, hk1, e2, hC1, hR1, lf1, e41, hcz1, h25⟩
  · obtain ⟨M2, g2, h2, -⟩ := f_expr fm
    rw [g2, mb_bd, if_neg h2.nz.2]
    obtain ⟨M3, g3, h3⟩ := f_j59 h2 (b2i o) x2 (gI M1 0 38) 0
    exact ⟨M3, g3, Or.inl ⟨f, p, fo, h3⟩⟩
  subst e2
  obtain ⟨bk1, bk2, bk3, bk4⟩ := bo2_ok hbo ng
  obtain ⟨M2, g2, o2⟩ := j_expr h0 bk1 (by rw [bk2]; exact hbv) hso hC1 hR1 (by rw [e41]; exact h41) (Or.inl rfl) (fun _ => h25) (by omega) hcz1 hD
  rw [g2, mb_bd]
  rcases o2 with ⟨f, p, fo, fm⟩ | ⟨k2, eo, ev, fS, mf2, mp2, cz2, ec2, S2, y1, y2, y3, y4, y5, y6, y7, y8, y9, y10, y11, y12, y13, y14, y15, y16, y17⟩
  · rw [if_neg fm.nz.2]
    obtain ⟨M3, g3, h3⟩ := f_j59 fm (b2i o) (b2i ng) (gI M1 0 38) 0
    exact ⟨M3, g3, Or.inl ⟨f, p, fo, h3⟩⟩
  have hk2 := y3.1.2.2.2.1
  have h27 := (tK_lt (v := v) (n := n) k2).1
  rw [y3.1.2.1, if_pos (by decide), y3.1.2.2.1, mb_in (by omega) (by decide), mb_gd, mb_cl (by omega), (y3.1.tok h0).1]
  have hel : eo.length ≤ 20 := eo_len y7 (by omega)
  have hvl2 : (ev ++ bv).length = nbW (eo ++ ngL ng bo) + 1 := by
    rw [List.length_append, nbW_app, bk2]
    omega
  by_cases cc : 8 ≤ tK v n k2 ∧ tK v n k2 ≤ 11
  · -- the comparing sign
    obtain ⟨x, hx⟩ : ∃ x, x = tK v n k2 := ⟨_, rfl⟩
    rw [← hx] at cc
    rw [(mk_cmp _ h27).1 (by rw [← hx]; exact cc), ← hx]
    have hrel : rel 4 (eo ++ ngL ng bo) (ev ++ bv) = (ngL ng bo, fS :: bv) := by
      rw [rel_15 (t := 4) (by decide) (by decide) y7 y13, y9]
      show rel 4 (ngL ng bo) (fS :: bv) = _
      refine rel_stop ?_
      cases hl : ngL ng bo with
      | nil => exact Or.inl rfl
      | cons y r =>
        right
        have := bk4 y (by rw [hl]; exact List.mem_cons_self)
        show tg y < 4
        omega
    have hO := cs_cmp y2 hk2 y14 cc hx.symm hvl2 (by rw [List.length_append]; omega)
    rw [hrel] at hO
    have hj : Model_literal_j59 M2 (b2i o) (b2i ng) (gI M1 0 38) (nI (x - 8)) = Model_literal_j84 M2 (b2i o) (b2i ng) (gI M1 0 38) (nI (x - 8)) := by
      unfold Model_literal_j59
      rw [if_pos y3.1.2.1, if_neg (nI_lit4 x cc.2).1, if_pos (nI_lit4 x cc.2).2]
    rw [hj]
    unfold Model_literal_j84
    rcases r_next y3.1 h0 (by omega) with ⟨e, M3, g3, f3⟩ | ⟨e, g3, r3⟩
    · have fo : FOc S0 2 (tP v n k2) := by
        rcases hO with ⟨-, z⟩ | ⟨z, -⟩
        · exact z
        · omega
      obtain ⟨M4, g4, h4, -⟩ := f_expr f3
      rw [g3, mb_bd, mb_nm, g4, mb_bd, if_neg h4.nz.2]
      exact ⟨M4, rfl, Or.inl ⟨2, _, Or.inl fo, h4⟩⟩
    · rcases hO with ⟨z, -⟩ | ⟨-, S3, hS3⟩
      · omega
      obtain ⟨hR3, lf3⟩ := y3.nx r3
      obtain ⟨M3, eM3⟩ : ∃ M3, M3 = pI M2 0 11 (nI (k2 + 1)) := ⟨_, rfl⟩
      rw [g3, mb_bd, mb_nm, ← eM3]
      rw [← eM3] at hR3 lf3
      have hlen : (eo ++ ngL ng bo).length - (ngL ng bo).length = eo.length := by rw [List.length_append]; omega
      rw [hlen] at hS3
      obtain ⟨i1, i2, i3, i4, i5, i6, i7, i8⟩ := rel_e 5 (Or.inl rfl) y7 y13
      rw [y9] at i8
      have i8 : 0 + (eo.length - 0) = pW eo := i8
      rw [pW_app] at y12
      have hx2 : isB2 x = true ∧ Nat.beq x 12 = false ∧ tg x = 4 := by
        have : x = 8 ∨ x = 9 ∨ x = 10 ∨ x = 11 := by omega
        rcases this with rfl | rfl | rfl | rfl <;> exact ⟨rfl, rfl, rfl⟩
      have bk5 : bOK (x :: ngL ng bo) := ⟨by show (ngL ng bo).length + 1 ≤ 4; omega, fun y hy => by
        rcases List.mem_cons.mp hy with z | z
        · rw [z, hx2.2.2]; exact ⟨by decide, by decide, Or.inl hx2.1⟩
        · exact bk1.2 y z⟩
      have hbv5 : (fS :: bv).length = nbW (x :: ngL ng bo) := by
        show bv.length + 1 = nbW (ngL ng bo) + cond (isB2 x) 1 0
        rw [hx2.1, bk2, hbv]
        rfl
      have hcz3 : cz2 + eo.length + pW (x :: ngL ng bo) ≤ k2 + 1 := by
        show cz2 + eo.length + (pW (ngL ng bo) + cond (Nat.beq x 12) 0 1) ≤ k2 + 1
        rw [hx2.2.1]
        show cz2 + eo.length + (pW (ngL ng bo) + 1) ≤ k2 + 1
        omega
      have e41' : gI M3 0 41 = b2i (Nat.beq so 3) := by rw [lf3.1.1 41 (by decide), y5, e41]; exact h41
      obtain ⟨M4, g4, o4⟩ := j_expr h0 bk5 hbv5 hso hS3 hR3 e41' (Or.inr rfl) (fun z => absurd z (by decide)) (by omega) hcz3 y14
      rw [g4, mb_bd]
      rcases o4 with ⟨f, p, fo, fm⟩ | ⟨k4, eo4, ev4, gS, mf4, mp4, cz4, ec4, S4, w1, w2, w3, w4, w5, w6, w7, w8, w9, w10, w11, w12, w13, w14, w15, w16, w17⟩
      · rw [if_neg fm.nz.2]
        exact ⟨M4, rfl, Or.inl ⟨f, p, fo, fm⟩⟩
      rw [w3.1.2.1, if_pos (by decide)]
      have hk4 := w3.1.2.2.2.1
      have e19 : gI M4 0 19 = nI (1 - lv) := by rw [w3.1.1.i 19 (by decide)]; exact h0.2.2.1
      have e31 : gA M4 0 31 (1 - lv) = nI lc := w3.2.2.2.1
      have e38 : gI M4 0 38 = nI (500 * (1 - lv) + ec4) := w3.2.2.1
      have e38a : gI M1 0 38 = nI (500 * (1 - lv) + ec) := hR1.2.2.1
      have e38b : gI M3 0 38 = nI (500 * (1 - lv) + ec2) := hR3.2.2.1
      obtain ⟨M5, eM5⟩ : ∃ M5, M5 = pA (pA (pA (pA (pA (pA (pA M4 0 32 (200 * (1 - lv) + lc) (nI (x - 8))) 0 33 (200 * (1 - lv) + lc) (b2i ng)) 0 34 (200 * (1 - lv) + lc) (b2i o)) 0 35 (200 * (1 - lv) + lc) (nI (500 * (1 - lv) + ec))) 0 36 (200 * (1 - lv) + lc) (nI (500 * (1 - lv) + ec2))) 0 37 (200 * (1 - lv) + lc) (nI (500 * (1 - lv) + ec4))) 0 31 (1 - lv) (nI (lc + 1)) := ⟨_, rfl⟩
      have run : (nm (((200 : Int32) * (gI M4 0 19)) + (gA M4 0 31 (gI M4 0 19).toNatClampNeg)) fun x6_27 => gd (inb x6_27 400) <| nm (pA M4 0 32 x6_27.toNatClampNeg (nI (x - 8))) fun S_29 => gd (inb x6_27 400) <| nm (pA S_29 0 33 x6_27.toNatClampNeg (vp_nar .boolean (b2i ng))) fun S_31 => gd (inb x6_27 400) <| nm (pA S_31 0 34 x6_27.toNatClampNeg (vp_nar .boolean (b2i o))) fun S_33 => gd (inb x6_27 400) <| nm (pA S_33 0 35 x6_27.toNatClampNeg (gI M1 0 38)) fun S_35 => gd (inb x6_27 400) <| nm (pA S_35 0 36 x6_27.toNatClampNeg (gI M3 0 38)) fun S_37 => gd (inb x6_27 400) <| nm (pA S_37 0 37 x6_27.toNatClampNeg (gI S_37 0 38)) fun S_39 => gd (inb (gI S_39 0 19) 2) <| gd (inb (gI S_39 0 19) 2) <| nm (pA S_39 0 31 (gI S_39 0 19).toNatClampNeg ((gA S_39 0 31 (gI S_39 0 19).toNatClampNeg) + (1 : Int32))) fun S_42 => some S_42) = some M5 := by
        rw [e19, mb_cl (by omega), e31, show (200 : Int32) = nI 200 from rfl, pk_mul, nI_add, mb_nm, mb_in (by omega) (by decide), mb_gd, mb_nm, mb_gd, mb_nm, mb_gd, mb_nm, mb_gd, mb_nm, mb_gd, mb_nm, mb_gd, mb_nm, mb_cl (by omega), nar_b, nar_b, e38a, e38b]
        simp only [mb_IA]
        rw [e38, e19, mb_in (by omega) (by decide), mb_gd, mb_gd, mb_nm, mb_cl (by omega), gA_n _ _ (fun z => by omega), gA_n _ _ (fun z => by omega), gA_n _ _ (fun z => by omega), gA_n _ _ (fun z => by omega), gA_n _ _ (fun z => by omega), gA_n _ _ (fun z => by omega), e31, nI_1, ← eM5]
      have a5 : agZ [] [31, 32, 33, 34, 35, 36, 37] [] M4 M5 := by
        rw [eM5]
        exact ((((((agZ.pA M4 32 _ _ (by decide)).tr (agZ.pA _ 33 _ _ (by decide))).tr (agZ.pA _ 34 _ _ (by decide))).tr (agZ.pA _ 35 _ _ (by decide))).tr (agZ.pA _ 36 _ _ (by decide))).tr (agZ.pA _ 37 _ _ (by decide))).tr (agZ.pA _ 31 _ _ (by decide))
      have hlc2 : lc < 200 := by omega
      have fr5 : FR lv M4 M5 := by
        rw [eM5]
        exact ((((((FR.zA hlv M4 32 200 lc _ (by decide) (by decide) hlc2 rfl).tr (FR.zA hlv _ 33 200 lc _ (by decide) (by decide) hlc2 rfl)).tr (FR.zA hlv _ 34 200 lc _ (by decide) (by decide) hlc2 rfl)).tr (FR.zA hlv _ 35 200 lc _ (by decide) (by decide) hlc2 rfl)).tr (FR.zA hlv _ 36 200 lc _ (by decide) (by decide) hlc2 rfl)).tr (FR.zA hlv _ 37 200 lc _ (by decide) (by decide) hlc2 rfl)).tr (FR.zA2 lv _ 31 _ _ (Or.inl rfl))
      have lf45 : LF (1 - lv) ec4 lc M4 M5 := by
        refine ⟨a5.wk (by decide) (by decide) (by decide), by rw [eM5]; rfl, fun j hj => ?_, fun j _ => by rw [a5.2.1 39 (by decide), a5.2.1 40 (by decide)]; exact ⟨rfl, rfl⟩⟩
        rw [eM5]
        refine ⟨?_, ?_, ?_, ?_, ?_, ?_⟩
        · rw [gA_n _ _ (fun z => by omega), gA_n _ _ (fun z => by omega), gA_n _ _ (fun z => by omega), gA_n _ _ (fun z => by omega), gA_n _ _ (fun z => by omega), gA_n _ _ (fun z => by omega), gA_n _ _ (fun z => by omega)]
        · rw [gA_n _ _ (fun z => by omega), gA_n _ _ (fun z => by omega), gA_n _ _ (fun z => by omega), gA_n _ _ (fun z => by omega), gA_n _ _ (fun z => by omega), gA_n _ _ (fun z => by omega), gA_n _ _ (fun z => by omega)]
        · rw [gA_n _ _ (fun z => by omega), gA_n _ _ (fun z => by omega), gA_n _ _ (fun z => by omega), gA_n _ _ (fun z => by omega), gA_n _ _ (fun z => by omega), gA_n _ _ (fun z => by omega), gA_n _ _ (fun z => by omega)]
        · rw [gA_n _ _ (fun z => by omega), gA_n _ _ (fun z => by omega), gA_n _ _ (fun z => by omega), gA_n _ _ (fun z => by omega), gA_n _ _ (fun z => by omega), gA_n _ _ (fun z => by omega), gA_n _ _ (fun z => by omega)]
        · rw [gA_n _ _ (fun z => by omega), gA_n _ _ (fun z => by omega), gA_n _ _ (fun z => by omega), gA_n _ _ (fun z => by omega), gA_n _ _ (fun z => by omega), gA_n _ _ (fun z => by omega), gA_n _ _ (fun z => by omega)]
        · rw [gA_n _ _ (fun z => by omega), gA_n _ _ (fun z => by omega), gA_n _ _ (fun z => by omega), gA_n _ _ (fun z => by omega), gA_n _ _ (fun z => by omega), gA_n _ _ (fun z => by omega), gA_n _ _ (fun z => by omega)]
      have v32 : gA M5 0 32 (200 * (1 - lv) + lc) = nI (x - 8) := by rw [eM5, gA_n _ _ (fun z => by omega), gA_n _ _ (fun z => by omega), gA_n _ _ (fun z => by omega), gA_n _ _ (fun z => by omega), gA_n _ _ (fun z => by omega), gA_n _ _ (fun z => by omega), gA_s]
      have v33 : gA M5 0 33 (200 * (1 - lv) + lc) = b2i ng := by rw [eM5, gA_n _ _ (fun z => by omega), gA_n _ _ (fun z => by omega), gA_n _ _ (fun z => by omega), gA_n _ _ (fun z => by omega), gA_n _ _ (fun z => by omega), gA_s]
      have v34 : gA M5 0 34 (200 * (1 - lv) + lc) = b2i o := by rw [eM5, gA_n _ _ (fun z => by omega), gA_n _ _ (fun z => by omega), gA_n _ _ (fun z => by omega), gA_n _ _ (fun z => by omega), gA_s]
      have v35 : gA M5 0 35 (200 * (1 - lv) + lc) = nI (500 * (1 - lv) + ec) := by rw [eM5, gA_n _ _ (fun z => by omega), gA_n _ _ (fun z => by omega), gA_n _ _ (fun z => by omega), gA_s]
      have v36 : gA M5 0 36 (200 * (1 - lv) + lc) = nI (500 * (1 - lv) + ec2) := by rw [eM5, gA_n _ _ (fun z => by omega), gA_n _ _ (fun z => by omega), gA_s]
      have v37 : gA M5 0 37 (200 * (1 - lv) + lc) = nI (500 * (1 - lv) + ec4) := by rw [eM5, gA_n _ _ (fun z => by omega), gA_s]
      have v31 : gA M5 0 31 (1 - lv) = nI (lc + 1) := by rw [eM5, gA_s]
      refine ⟨M5, ?_, Or.inr ⟨k4, x, ng, fS, gS, eo4, ev4, mf4, mp4, cz4, ec4, S4, by omega, w2, ?_, ?_, ?_, ?_, cc.1, cc.2, w7, w8, w9, by omega, w11, by omega, w12, w13, w14, w15, w16, w17⟩⟩
      · rw [e19, mb_in (by omega) (by decide), mb_gd, ← e19]
        exact run
      · exact ⟨⟨w3.1.1.tr fr5, by rw [a5.1 13 (by decide)]; exact w3.1.2.1, by rw [a5.1 11 (by decide)]; exact w3.1.2.2.1, w3.1.2.2.2⟩, by rw [a5.1 12 (by decide)]; exact w3.2.1, by rw [a5.1 38 (by decide)]; exact e38, v31, w3.2.2.2.2.1.lf lf45 (by rw [a5.1 15 (by decide)]; exact w3.2.2.2.2.1.2.2.1) (fun z => by rw [a5.1 16 (by decide)]; exact w3.2.2.2.2.1.2.2.2.1 z), fun z => (w3.2.2.2.2.2 z).lf lf45 (Nat.le_refl _) (Nat.le_succ _)⟩
      · exact (((lf1.tr y4 (Nat.le_refl _) (Nat.le_refl _)).tr lf3 y10 (Nat.le_refl _)).tr w4 y10 (Nat.le_refl _)).tr lf45 (by omega) (Nat.le_refl _)
      · rw [a5.1 41 (by decide), w5, lf3.1.1 41 (by decide), y5, e41]
      · intro z
        obtain ⟨z2, isR, t1, t2, t3, t4⟩ := w6 z
        obtain ⟨z3, isL, u1, u2, u3, u4⟩ := y6 z2
        have lf25 := (lf3.tr w4 (Nat.le_refl _) (Nat.le_refl _)).tr lf45 w10 (Nat.le_refl _)
        have n6 := w14.1
        exact ⟨z3, x, ng, fS, gS, ec, isL, isR, cc.1, cc.2, rfl, v32, v33, v34, v35, by rw [v36, u1]; congr 1; omega, by rw [v37, t1, u1]; congr 1; omega, by omega, u2.lf lf25.2.2.2 (by omega), by rw [show 500 * (1 - lv) + ec + isL.length = 500 * (1 - lv) + ec2 by omega]; exact t2.lf lf45.2.2.2 (by omega), okI_mono n6 u3, okI_mono n6 t3, u4, t4⟩
  · -- none is there
    have hz : ∃ M3, Model_literal_j59 M2 (b2i o) (b2i ng) (gI M1 0 38) (nI (mk (tK v n k2)) - 4) = some M3 ∧ FM lv M0 1 (tP v n k2) M3 := by
      obtain ⟨M3, g3, f3, -⟩ := r_fail y3.1 h0 (f := 1) (Or.inl rfl)
      have h79 : ∃ M4, Model_literal_j79 M2 (b2i o) (b2i ng) (gI M1 0 38) (nI (mk (tK v n k2)) - 4) = some M4 ∧ FM lv M0 1 (tP v n k2) M4 := by
        unfold Model_literal_j79
        rw [show f_Model_fail M2 1 = _ from g3, mb_bd]
        exact f_j84 f3 _ _ _ _
      unfold Model_literal_j59
      rw [if_pos y3.1.2.1]
      rcases (mk_cmp _ h27).2 cc with z | z
      · rw [if_pos z]; exact h79
      · by_cases z2 : nI (mk (tK v n k2)) - 4 < 0
        · rw [if_pos z2]; exact h79
        · rw [if_neg z2, if_neg z]; exact h79
    obtain ⟨M3, g3, f3⟩ := hz
    refine ⟨M3, g3, Or.inl ⟨1, _, ?_, f3⟩⟩
    by_cases z : tK v n k2 = 0
    · exact cl_endx y2.1 hk2 y2.2.2.1 y2.2.1 (by decide) (by decide) z
    · exact Or.inl (cs_exref y2 hk2 y14 hvl2 ⟨z, y15, y16, y17⟩ (Or.inr (Or.inl ⟨rfl, cc⟩)))
