/-! both read an expression: side by side -/
def FOx (S0 : St) (f p : Nat) : Prop := FOc S0 f p ∨ (f = 1 ∧ ∃ S', Wc S0 0 = some S' ∧ gI S' 1 4 = 0 ∧ ¬ gI S' 1 7 = 0 ∧ gI S' 2 4 = nI p ∧ agG rdI gdA gdB rdL S0 S')
def FF (S0 : St) (lv : Nat) (M0 M : St) : Prop := ∃ f p, FOx S0 f p ∧ FM lv M0 f p M
variable {v : Nat → Nat} {n lv : Nat} {S0 S M0 Ms M : St} {T : Tx} {ex : Option Sem} {nN : Nat → List Nat} {pd mf mp cz ec sd so ne sl lo k x0 st : Nat} {wq : Option Nat} {tl : Nat → Nat} {eo bo : List Nat} {ev bv : List Sem}
theorem cl_endx (hL : LK v n S0 k S) (hk : k ≤ 400) (h4 : gI S 1 4 = 0) (h7 : gI S 1 7 = nI st) (hst : 0 < st) (hst2 : st ≤ 11) (hz : tK v n k = 0) : FOx S0 1 (tP v n k) := by
  right
  refine ⟨rfl, S, cl_end hL hk h4 hz, h4, ?_, hL.2.2.2.2.2.2.1, hL.2.1.wk (by decide) (by decide) (by decide) (by decide)⟩
  rw [h7, l0, mb_eq (by omega) (by omega)]
  omega
/-- what the two hold inside an expression -/
def JX (v : Nat → Nat) (n lv : Nat) (S0 M0 Ms : St) (sd so sl lo : Nat) (bo : List Nat) (bv : List Sem) (T : Tx) (ex : Option Sem) (nN : Nat → List Nat) (pd : Nat) (tl : Nat → Nat) (wq : Option Nat) (x0 k st ne : Nat) (eo : List Nat) (ev : List Sem) (mf mp cz ec : Nat) (S M : St) : Prop :=
  CP v n S0 k st sd so ne sl lo (eo ++ bo) (ev ++ bv) T ex nN pd mf mp cz tl wq S ∧ XR v n lv M0 x0 (tNf T) k eo ev ec mf mp ne Ms M ∧ eok eo ∧ c12 eo = ne ∧ ne ≤ 6 ∧ ec + nbW eo ≤ k ∧ cz + pW (eo ++ bo) ≤ k ∧ ev.length = nbW eo + (if st = 11 then 1 else 0) ∧ DOK T nN mf mp ∧ (st = 10 → mf = 0 → so = 3)
/-- what stands fixed while an expression is read -/
def JF (v : Nat → Nat) (n lv : Nat) (M0 Ms : St) (so : Nat) (bo : List Nat) (bv : List Sem) (T : Tx) (nN : Nat → List Nat) : Prop := TK0 v n lv M0 ∧ bOK bo ∧ bv.length = nbW bo ∧ so < 6 ∧ gI Ms 0 41 = b2i (Nat.beq so 3) ∧ gA Ms 0 20 (1 - lv) = nI (tNf T) ∧ ∀ f, f < tNf T → gB Ms 0 21 (6 * (1 - lv) + f) = lN (encM (nN f))
theorem bon_le (x : Nat) : bon x ≤ 2 := by
  unfold bon
  by_cases c1 : x = 7
  · rw [if_pos c1]; exact Nat.le_refl _
  rw [if_neg c1]
  by_cases c2 : x = 5
  · rw [if_pos c2]; decide
  rw [if_neg c2]
  by_cases c3 : x = 6
  · rw [if_pos c3]; decide
  rw [if_neg c3]; decide
theorem eo_len {eo : List Nat} (h : eok eo) (h2 : c12 eo ≤ 6) : eo.length ≤ 20 := by
  have h1 := eok_len h
  have := bon_le (eo.headD 0)
  omega
theorem wl_len {eo bo : List Nat} (h : eok eo) (h2 : c12 eo ≤ 6) (hb : bOK bo) : (eo ++ bo).length ≤ 24 := by
  have h1 := eo_len h h2
  have h3 := hb.1
  rw [List.length_append]
  omega
theorem x_named (hF : JF v n lv M0 Ms so bo bv T nN) (hD : DOK T nN mf mp) {q : Nat} (h : XR v n lv M0 x0 (tNf T) k eo ev ec mf mp ne Ms M) (hq : q < k) (hK : tK v n q = 2) {x : Nat} (hx : x = 2 ∨ (x = 26 ∧ (mf = 0 → so = 3))) (hvl : ev.length ≤ 60) (hec : ec < 499) : ∃ M', f_Model_named M (nI q) (nI (rk x)) = some M' ∧ XR v n lv M0 x0 (tNf T) k eo (stI (x, (fnd nN (tWd v n q) (tNf T)).getD 0) ev) (ec + 1) (naM (fnd nN (tWd v n q) (tNf T)) (tP v n q) mf mp).1 (naM (fnd nN (tWd v n q) (tNf T)) (tP v n q) mf mp).2 ne Ms M' := by
  obtain ⟨h0, -, -, -, -, f20, f21⟩ := hF
  obtain ⟨n6, hN, hm, hm2⟩ := hD
  have hlv := h0.1
  obtain ⟨hal, hlen⟩ := tk_2 hK
  have hk := h.1.2.2.2.1
  have e20 : gA M 0 20 (1 - lv) = nI (tNf T) := by rw [h.2.1.1.2.1 20 (by decide)]; exact f20
  have e21 : ∀ f, f < tNf T → gB M 0 21 (6 * (1 - lv) + f) = lN (encM (nN f)) := by rw [h.2.1.1.2.2 21 (by decide)]; exact f21
  have e19 : gI M 0 19 = nI (1 - lv) := by rw [h.1.1.i 19 (by decide)]; exact h0.2.2.1
  have e8 : gB M 0 8 q = lN (encM (tWd v n q)) := by
    have := (h0.2.2.2 q (by omega) (fun j hj => h.1.2.2.2.2 j (by omega))).2.2.2 hK
    rw [h.1.1.b 8 (by decide)]
    exact this
  have hxA : isA x := by
    unfold isA
    rcases hx with rfl | ⟨rfl, -⟩
    · exact Or.inr (Or.inl rfl)
    · exact Or.inr (Or.inr (Or.inl rfl))
  have key := wh_ix (f := Model_named_l2 M (nI q) (nI (rk x))) (s := (0 : Int32)) (tNf T) (fun f y => y = nI f ∧ fnd nN (tWd v n q) f = none) (fun M' => XR v n lv M0 x0 (tNf T) k eo (stI (x, (fnd nN (tWd v n q) (tNf T)).getD 0) ev) (ec + 1) (naM (fnd nN (tWd v n q) (tNf T)) (tP v n q) mf mp).1 (naM (fnd nN (tWd v n q) (tNf T)) (tP v n q) mf mp).2 ne Ms M') ⟨rfl, rfl⟩ ?_ ?_
  · obtain ⟨M', h1, h2⟩ := key
    exact ⟨M', by unfold f_Model_named; rw [h1], h2⟩
  · intro f y hf hI
    obtain ⟨e1, e2⟩ := hI
    subst e1
    have hc : lg_cmp (gB M 0 21 (6 * (1 - lv) + f)) (lN (encM (tWd v n q))) = 0 ↔ nN f = tWd v n q := by
      rw [lg_cmp_eq, e21 f hf]
      exact encM_eq (hN f hf).1 hal (hN f hf).2 hlen
    have hs : fnd nN (tWd v n q) (f + 1) = (match fnd nN (tWd v n q) f with | some j => some j | none => if nN f = tWd v n q then some f else none) := rfl
    rw [e2] at hs
    dsimp only at hs
    by_cases c : nN f = tWd v n q
    · right
      rw [if_pos c] at hs
      have hfin := fnd_up hs (tNf T) (by omega)
      obtain ⟨M', g1, x1⟩ := x_emit hlv h (x := x) (d := f) hxA hec (fun z => ⟨Or.inr (Or.inl ⟨by rcases hx with y | ⟨y, -⟩; exact Or.inl y; exact Or.inr y, hf, hvl⟩), by omega⟩)
      refine ⟨M', ?_, by rw [hfin]; exact x1⟩
      unfold Model_named_l2
      rw [e19, mb_in (by omega) (by decide), mb_gd, mb_cl (by omega), e20, if_neg (by rw [mb_le (by omega) (by omega)]; omega), l6, pk_mul, nI_add, mb_in (by omega) (by decide), mb_gd, mb_in (by omega) (by decide), mb_gd, mb_cl (by omega), mb_cl (by omega), e8, if_pos (hc.mpr c), g1, mb_bd]
    · left
      rw [if_neg c] at hs
      refine ⟨nI (f + 1), ?_, rfl, hs⟩
      unfold Model_named_l2
      rw [e19, mb_in (by omega) (by decide), mb_gd, mb_cl (by omega), e20, if_neg (by rw [mb_le (by omega) (by omega)]; omega), l6, pk_mul, nI_add, mb_in (by omega) (by decide), mb_gd, mb_in (by omega) (by decide), mb_gd, mb_cl (by omega), mb_cl (by omega), e8, if_neg (fun z => c (hc.mp z)), mb_nm, nI_1]
  · intro y hI
    obtain ⟨e1, e2⟩ := hI
    subst e1
    obtain ⟨M1, g1, a1, l1, r1, e15, e16⟩ := r_wrong h.1 h0 (f := 4) h.2.2.2.2.2.1 h.2.2.2.2.2.2.1 hm hm2 (by decide) (show q ≤ k by omega)
    have hne : ¬ (blN 4 (tP v n q) mf mp).1 = 0 := bl_ne (by decide)
    have x1 := h.mv (mf' := (blN 4 (tP v n q) mf mp).1) (mp' := (blN 4 (tP v n q) mf mp).2) (fun z => absurd z hne) r1 (a1.wk (by decide) (by decide) (by decide)) l1 (by rw [a1.1 12 (by decide)]; exact h.2.2.1) e15 e16
    obtain ⟨M2, g2, x2⟩ := x_emit hlv x1 (x := 3) (d := 0) (Or.inl rfl) hec (fun z => absurd z hne)
    refine ⟨M2, ?_, ?_⟩
    · unfold Model_named_l2
      rw [e19, mb_in (by omega) (by decide), mb_gd, mb_cl (by omega), e20, if_pos (by rw [mb_le (by omega) (by omega)]; omega), show f_Model_wrong M 4 (nI q) = _ from g1, mb_bd, show f_Model_emit M1 0 0 = _ from g2, mb_bd]
    · rw [e2]
      obtain ⟨p1, p2, p3, p4, p5, p6, p7, p8⟩ := x2
      exact ⟨p1, p2, p3, p4, p5, p6, p7, p8.1, p8.2.1, fun z => absurd z hne⟩
/-- what a unit leaves -/
def JU (v : Nat → Nat) (n lv : Nat) (S0 M0 Ms : St) (sd so sl lo : Nat) (bo : List Nat) (bv : List Sem) (T : Tx) (ex : Option Sem) (nN : Nat → List Nat) (pd : Nat) (tl : Nat → Nat) (wq : Option Nat) (x0 k0 st ne : Nat) (eo : List Nat) (M : St) : Prop := FF S0 lv M0 M ∨ ∃ k ev mf mp cz ec S, k0 < k ∧ JX v n lv S0 M0 Ms sd so sl lo bo bv T ex nN pd tl wq x0 k st ne eo ev mf mp cz ec S M
theorem st_push {c : Nat × Nat} (h : c.1 = 3 ∨ c.1 = 2 ∨ c.1 = 26) : ∃ g : Sem, ∀ s, stI c s = g :: s := by
  unfold stI
  by_cases c1 : c.1 = 3
  · exact ⟨_, fun s => by rw [if_pos c1]⟩
  by_cases c2 : c.1 = 2
  · exact ⟨_, fun s => by rw [if_neg c1, if_pos c2]⟩
  have c3 : c.1 = 26 := by omega
  exact ⟨_, fun s => by rw [if_neg c1, if_neg c2, if_pos c3]⟩
theorem x_next (h : XR v n lv M0 x0 (tNf T) k eo ev ec mf mp ne Ms M) (hA : RA v n lv M0 (k + 1) (pI M 0 11 (nI (k + 1)))) : XR v n lv M0 x0 (tNf T) (k + 1) eo ev ec mf mp ne Ms (pI M 0 11 (nI (k + 1))) :=
  h.mv (fun z => z) hA (agZ.pI M 11 _ (by decide)) rfl (by rw [gI_n _ _ (fun z => by omega)]; exact h.2.2.1) (by rw [gI_n _ _ (fun z => by omega)]; exact h.2.2.2.2.2.1) (fun z => by rw [gI_n _ _ (fun z => by omega)]; exact h.2.2.2.2.2.2.1 z)
theorem beq_f {a b : Nat} (h : ¬ a = b) : Nat.beq a b = false := by
  cases hb : Nat.beq a b with
  | true => exact absurd (Nat.eq_of_beq_eq_true hb) h
  | false => rfl
theorem j_unit (hF : JF v n lv M0 Ms so bo bv T nN) (h : JX v n lv S0 M0 Ms sd so sl lo bo bv T ex nN pd tl wq x0 k st ne eo ev mf mp cz ec S M) (hst : st = 8 ∨ st = 9) (h12 : ¬ tK v n k = 12) (h25 : st = 8 → ¬ tK v n k = 25) : ∃ M', f_Model_unit M = some M' ∧ JU v n lv S0 M0 Ms sd so sl lo bo bv T ex nN pd tl wq x0 k 11 ne eo M' := by
  obtain ⟨hC, hX, hk1, hk2, hk3, hk4, hk5, hk6, hD, -⟩ := h
  obtain ⟨h0, hb, hbv, hso, f41, -⟩ := id hF
  have hlv := h0.1
  have hk := hX.1.2.2.2.1
  have hst11 : ¬ st = 11 := by omega
  rw [if_neg hst11, Nat.add_zero] at hk6
  have hel := eo_len hk1 (by omega)
  have hnb := nbW_le eo
  have hvl : (ev ++ bv).length ≤ 60 := by
    have := nbW_le bo
    have := hb.1
    rw [List.length_append]
    omega
  have hevl : ev.length ≤ 60 := by omega
  have h4 := hC.2.2.1
  have hec : ec < 499 := by omega
  -- how a step of each goes on
  have fin : ∀ {c : Nat × Nat} {mf' mp' k' : Nat} {M' : St}, (c.1 = 3 ∨ c.1 = 2 ∨ c.1 = 26) → k ≤ k' → DOK T nN mf' mp' → OUT v n S0 k' (fun S' => CP v n S0 (k' + 1) 11 sd so ne sl lo (eo ++ bo) (stI c (ev ++ bv)) T ex nN pd mf' mp' (cz + 1) tl wq S') → XR v n lv M0 x0 (tNf T) (k' + 1) eo (stI c ev) (ec + 1) mf' mp' ne Ms M' → k' < 400 → JU v n lv S0 M0 Ms sd so sl lo bo bv T ex nN pd tl wq x0 k 11 ne eo M' := by
    intro c mf' mp' k' M' hA hkk hD' hO hX' hlt
    rcases hO with ⟨z, -⟩ | ⟨-, S', hS'⟩
    · omega
    · right
      obtain ⟨g, hg⟩ := st_push hA
      rw [hg] at hS' hX'
      refine ⟨k' + 1, g :: ev, mf', mp', cz + 1, ec + 1, S', by omega, hS', hX', hk1, hk2, hk3, by omega, by omega, ?_, hD', fun z => absurd z (by decide)⟩
      rw [if_pos rfl]
      show ev.length + 1 = _
      omega
  have room : ∀ {P : St → Prop} {k' : Nat} {M' : St}, k' = 400 → OUT v n S0 k' P → FM lv M0 2 (tP v n k') M' → FF S0 lv M0 M' := by
    intro P k' M' he hO hf
    rcases hO with ⟨-, z⟩ | ⟨z, -⟩
    · exact ⟨2, _, Or.inl z, hf⟩
    · omega
  have e41 : gI M 0 41 = b2i (Nat.beq so 3) := by rw [hX.2.1.1.1 41 (by decide)]; exact f41
  unfold f_Model_unit
  rw [show f_Model_is M 2 = _ from r_is hX.1 h0 (x := 3) (by decide), mb_bd]
  by_cases c3 : tK v n k = 3
  · rw [c3, Nat.beq_refl, if_neg (by decide), hX.1.2.2.1, mb_in (by omega) (by decide), mb_gd, mb_cl (by omega), (hX.1.tok h0).2.2.1 c3]
    have h3 := tk_3 c3
    obtain ⟨M1, g1, x1⟩ := x_emit hlv hX (x := 3) (d := tN v n k) (Or.inl rfl) hec (fun _ => ⟨Or.inl ⟨rfl, h3, hevl⟩, by omega⟩)
    rw [show f_Model_emit M 0 (nI (tN v n k)) = _ from g1, mb_bd]
    have hO := cs_int hC hk hD hst c3 hvl
    rcases r_next x1.1 h0 (by rw [c3]; decide) with ⟨e, M2, g2, f2⟩ | ⟨e, g2, r2⟩
    · rw [g2, mb_bd]
      exact ⟨M2, rfl, Or.inl (room e hO f2)⟩
    · rw [g2, mb_bd]
      exact ⟨_, rfl, fin (c := (3, tN v n k)) (Or.inl rfl) (Nat.le_refl k) hD hO (x_next x1 r2) e⟩
  rw [beq_f c3, if_pos (by rfl), show f_Model_is M 32 = _ from r_is hX.1 h0 (x := 26) (by decide), mb_bd]
  by_cases c26 : tK v n k = 26
  · rw [c26, Nat.beq_refl, if_neg (by decide), e41]
    have hO := cs_old hC hk hD hso hst c26
    -- the fault of meaning, if it is one
    have mid : ∃ M1, (if b2i (Nat.beq so 3) = 0 then bd (f_Model_wrong M 5 (gI M 0 11)) fun S_9 => Model_unit_j56 S_9 2 else Model_unit_j56 M 2) = Model_unit_j56 M1 2 ∧ XR v n lv M0 x0 (tNf T) k eo ev ec (if so = 3 then (mf, mp) else blN 5 (tP v n k) mf mp).1 (if so = 3 then (mf, mp) else blN 5 (tP v n k) mf mp).2 ne Ms M1 ∧ DOK T nN (if so = 3 then (mf, mp) else blN 5 (tP v n k) mf mp).1 (if so = 3 then (mf, mp) else blN 5 (tP v n k) mf mp).2 ∧ ((if so = 3 then (mf, mp) else blN 5 (tP v n k) mf mp).1 = 0 → so = 3) := by
      by_cases z : so = 3
      · rw [if_pos z, z, if_neg (by decide)]
        exact ⟨M, rfl, hX, hD, fun _ => rfl⟩
      · rw [if_neg z, beq_f z, if_pos (by rfl), hX.1.2.2.1]
        have hp : tP v n k ≤ 2000 := Nat.le_trans (tP_le k) h0.2.1
        obtain ⟨M1, g1, a1, l1, r1, e15, e16⟩ := r_wrong hX.1 h0 (f := 5) hX.2.2.2.2.2.1 hX.2.2.2.2.2.2.1 hD.2.2.1 hD.2.2.2 (by decide) (Nat.le_refl k)
        have hne : ¬ (blN 5 (tP v n k) mf mp).1 = 0 := bl_ne (by decide)
        rw [show f_Model_wrong M 5 (nI k) = _ from g1, mb_bd]
        refine ⟨M1, rfl, hX.mv (fun y => absurd y hne) r1 (a1.wk (by decide) (by decide) (by decide)) l1 (by rw [a1.1 12 (by decide)]; exact hX.2.2.1) e15 e16, ⟨hD.1, hD.2.1, (bl_le (by decide) hp hD.2.2.1 hD.2.2.2).1, (bl_le (by decide) hp hD.2.2.1 hD.2.2.2).2⟩, fun y => absurd y hne⟩
    obtain ⟨M1, g1, x1, d1, s1⟩ := mid
    rw [g1]
    generalize (if so = 3 then (mf, mp) else blN 5 (tP v n k) mf mp) = m1 at *
    unfold Model_unit_j56
    rcases r_next x1.1 h0 (by rw [c26]; decide) with ⟨e, M2, g2, f2⟩ | ⟨e, g2, r2⟩
    · rw [g2, mb_bd]
      unfold Model_unit_j60 Model_unit_j83
      rw [mb_nm, f_must f2, mb_bd, if_neg f2.nz.1]
      exact ⟨M2, rfl, Or.inl (room e hO f2)⟩
    · rcases hO with ⟨z, -⟩ | ⟨-, S1, hS1⟩
      · omega
      have x2 := x_next x1 r2
      rw [g2, mb_bd]
      generalize pI M1 0 11 (nI (k + 1)) = M2 at *
      unfold Model_unit_j60 Model_unit_j83
      rw [mb_nm, x2.1.2.2.1]
      have hk1' : k + 1 ≤ 400 := x2.1.2.2.2.1
      rcases r_must x2.1 h0 (x := 2) (by decide) (by decide) with ⟨c2, M3, g3, f3⟩ | ⟨c2, e3, M3, g3, f3⟩ | ⟨c2, e3, g3, r3⟩
      · rw [show f_Model_must M2 1 = _ from g3, mb_bd, if_neg f3.nz.1]
        refine ⟨M3, rfl, Or.inl ⟨1, _, ?_, f3⟩⟩
        by_cases z : tK v n (k + 1) = 0
        · exact cl_endx hS1.1 hk1' hS1.2.2.1 hS1.2.1 (by decide) (by decide) z
        · exact Or.inl (cs_noold hS1 hk1' z c2)
      · have hO2 := cs_oldname hS1 hk1' d1 s1 c2 hvl
        rw [show f_Model_must M2 1 = _ from g3, mb_bd, if_neg f3.nz.1]
        exact ⟨M3, rfl, Or.inl (room e3 hO2 f3)⟩
      · have hO2 := cs_oldname hS1 hk1' d1 s1 c2 hvl
        have x3 := x_next x2 r3
        have hp : tP v n (k + 1) ≤ 2000 := Nat.le_trans (tP_le _) h0.2.1
        rw [show f_Model_must M2 1 = _ from g3, mb_bd, if_pos r3.2.1]
        obtain ⟨M4, g4, x4⟩ := x_named hF d1 x3 (show k + 1 < k + 1 + 1 by omega) c2 (x := 26) (Or.inr ⟨rfl, s1⟩) hevl hec
        rw [show f_Model_named (pI M2 0 11 (nI (k + 1 + 1))) (nI (k + 1)) 2 = _ from g4, mb_bd]
        refine ⟨M4, rfl, fin (c := (26, (fnd nN (tWd v n (k + 1)) (tNf T)).getD 0)) (Or.inr (Or.inr rfl)) (Nat.le_succ k) ⟨d1.1, d1.2.1, (na_le hp d1.2.2.1 d1.2.2.2).1, (na_le hp d1.2.2.1 d1.2.2.2).2⟩ hO2 x4 e3⟩
  · rw [beq_f c26, if_pos (by rfl)]
    unfold Model_unit_j60 Model_unit_j83
    rw [mb_nm, hX.1.2.2.1]
    rcases r_must hX.1 h0 (x := 2) (by decide) (by decide) with ⟨c2, M3, g3, f3⟩ | ⟨c2, e3, M3, g3, f3⟩ | ⟨c2, e3, g3, r3⟩
    · rw [show f_Model_must M 1 = _ from g3, mb_bd, if_neg f3.nz.1]
      refine ⟨M3, rfl, Or.inl ⟨1, _, ?_, f3⟩⟩
      by_cases z : tK v n k = 0
      · exact cl_endx hC.1 hk h4 hC.2.1 (by omega) (by omega) z
      · exact Or.inl (cs_nounit hC hk hst ⟨z, c2, c3, h12, c26, h25⟩)
    · have hO2 := cs_name hC hk hD hst c2 hvl
      rw [show f_Model_must M 1 = _ from g3, mb_bd, if_neg f3.nz.1]
      exact ⟨M3, rfl, Or.inl (room e3 hO2 f3)⟩
    · have hO2 := cs_name hC hk hD hst c2 hvl
      have x3 := x_next hX r3
      have hp : tP v n k ≤ 2000 := Nat.le_trans (tP_le _) h0.2.1
      rw [show f_Model_must M 1 = _ from g3, mb_bd, if_pos r3.2.1]
      obtain ⟨M4, g4, x4⟩ := x_named hF hD x3 (show k < k + 1 by omega) c2 (x := 2) (Or.inl rfl) hevl hec
      rw [show f_Model_named (pI M 0 11 (nI (k + 1))) (nI k) 1 = _ from g4, mb_bd]
      exact ⟨M4, rfl, fin (c := (2, (fnd nN (tWd v n k) (tNf T)).getD 0)) (Or.inr (Or.inl rfl)) (Nat.le_refl k) ⟨hD.1, hD.2.1, (na_le hp hD.2.2.1 hD.2.2.2).1, (na_le hp hD.2.2.1 hD.2.2.2).2⟩ hO2 x4 e3⟩
/-- brackets open -/
theorem j_open (hF : JF v n lv M0 Ms so bo bv T nN) : ∀ (d : Nat) {k st ne : Nat} {eo : List Nat} {ev : List Sem} {mf mp cz ec : Nat} {S M : St}, 401 - k ≤ d → JX v n lv S0 M0 Ms sd so sl lo bo bv T ex nN pd tl wq x0 k st ne eo ev mf mp cz ec S M → (st = 8 ∨ st = 9) → (st = 8 → ¬ tK v n k = 25) → ∃ M', wh (Model_expression_l23 0) M = some M' ∧ (FF S0 lv M0 M' ∨ ∃ k' st' ne' eo' ev' mf' mp' cz' ec' S', k ≤ k' ∧ (st' = 8 ∨ st' = 9) ∧ (st' = 8 → ¬ tK v n k' = 25) ∧ ¬ tK v n k' = 12 ∧ JX v n lv S0 M0 Ms sd so sl lo bo bv T ex nN pd tl wq x0 k' st' ne' eo' ev' mf' mp' cz' ec' S' M')
  | 0, k, st, ne, eo, ev, mf, mp, cz, ec, S, M, hd, h, _, _ => by
    have := h.2.1.1.2.2.2.1
    omega
  | d + 1, k, st, ne, eo, ev, mf, mp, cz, ec, S, M, hd, h, hst, h25 => by
    obtain ⟨hC, hX, hk1, hk2, hk3, hk4, hk5, hk6, hD, -⟩ := id h
    obtain ⟨h0, hb, hbv, hso, f41, -⟩ := id hF
    have hlv := h0.1
    have hk := hX.1.2.2.2.1
    have hel := eo_len hk1 (by omega)
    have hwl := wl_len hk1 (by omega) hb
    by_cases c : tK v n k = 12
    · have his : f_Model_is M 9 = some (b2i true) := by rw [show f_Model_is M 9 = _ from r_is hX.1 h0 (x := 12) (by decide), c]; rfl
      have h12 := hX.2.2.1
      rcases cs_open hC hk hst c hk3 (by omega) with ⟨e6, fo⟩ | ⟨e6, hO⟩
      · -- a seventh
        obtain ⟨M1, g1, f1, a1, -⟩ := r_fail hX.1 h0 (f := 2) (Or.inr rfl)
        have f2 : FM lv M0 2 (tP v n k) (pI M1 0 12 (gI M1 0 12 + 1)) := f1.mv (FR.zI lv M1 12 _ (by decide) (by decide)) (gI_n _ _ (fun z => by omega)) (gI_n _ _ (fun z => by omega)) (gI_n _ _ (fun z => by omega))
        obtain ⟨M2, g2, f3, a2⟩ := f_next f2
        have e43 : gI M2 0 43 = nI eo.length := by rw [a2.1 43 (by decide), gI_n _ _ (fun z => by omega), a1.1 43 (by decide)]; exact hX.2.2.2.2.2.2.2.1
        have f4 : FM lv M0 2 (tP v n k) (pI (pA M2 0 42 eo.length 9) 0 43 (nI (eo.length + 1))) := f3.mv ((FR.zA2 lv M2 42 _ _ (Or.inr rfl)).tr (FR.zI lv _ 43 _ (by decide) (by decide))) (gI_n _ _ (fun z => by omega)) (gI_n _ _ (fun z => by omega)) (gI_n _ _ (fun z => by omega))
        refine ⟨_, ?_, Or.inl ⟨2, _, Or.inl fo, f4⟩⟩
        rw [wh_inl (t := pI (pA M2 0 42 eo.length 9) 0 43 (nI (eo.length + 1)))]
        · refine wh_inr ?_
          unfold Model_expression_l23
          rw [f_is f4, mb_bd, if_pos rfl]
        · unfold Model_expression_l23 Model_expression_j46_l23
          rw [his, mb_bd, if_neg (by decide), h12, e6, if_pos (by rfl), show f_Model_fail M 2 = _ from g1, mb_bd, mb_nm, g2, mb_bd, e43, mb_in (by omega) (by decide), mb_gd, mb_nm, mb_cl (by omega), mb_IA, e43, nI_1, mb_nm]
      · -- one more
        have a1 : agZ [12] [] [] M (pI M 0 12 (nI (ne + 1))) := agZ.pI M 12 _ (by decide)
        have r1 : RA v n lv M0 k (pI M 0 12 (nI (ne + 1))) := ⟨hX.1.1.tr (FR.zI lv M 12 _ (by decide) (by decide)), by rw [gI_n _ _ (fun z => by omega)]; exact hX.1.2.1, by rw [gI_n _ _ (fun z => by omega)]; exact hX.1.2.2.1, hX.1.2.2.2⟩
        have x1 := hX.mv (ne' := ne + 1) (fun z => z) r1 (a1.wk (by decide) (by decide) (by decide)) rfl (gI_s _ _ _ _) (by rw [gI_n _ _ (fun z => by omega)]; exact hX.2.2.2.2.2.1) (fun z => by rw [gI_n _ _ (fun z => by omega)]; exact hX.2.2.2.2.2.2.1 z)
        have step : ∀ M2, f_Model_next (pI M 0 12 (nI (ne + 1))) = some M2 → gI M2 0 43 = nI eo.length → Model_expression_l23 0 M = some (.inl (pI (pA M2 0 42 eo.length (nI (mk 12))) 0 43 (nI (eo.length + 1)))) := by
          intro M2 g2 e43
          unfold Model_expression_l23 Model_expression_j46_l23
          rw [his, mb_bd, if_neg (by decide), h12, if_neg (by rw [l6, mb_eq (by omega) (by omega)]; omega), nI_1, mb_nm, g2, mb_bd, e43, mb_in (by omega) (by decide), mb_gd, mb_nm, mb_cl (by omega), mb_IA, e43, nI_1, mb_nm]
          rfl
        rcases r_next r1 h0 (by rw [c]; decide) with ⟨e, M2, g2, f2⟩ | ⟨e, g2, r2⟩
        · -- at the 401st
          have e43 : gI M2 0 43 = nI eo.length := by
            unfold f_Model_next Model_next_j28 at g2
            rw [r1.2.2.1, show (400 : Int32) = nI 400 from rfl, if_pos (by rw [e])] at g2
            obtain ⟨M3, g3, -, a3, -⟩ := r_fail r1 h0 (f := 2) (Or.inr rfl)
            rw [show f_Model_fail (pI M 0 12 (nI (ne + 1))) 2 = _ from g3, mb_bd] at g2
            cases g2
            rw [a3.1 43 (by decide), gI_n _ _ (fun z => by omega)]
            exact hX.2.2.2.2.2.2.2.1
          have f4 : FM lv M0 2 (tP v n k) (pI (pA M2 0 42 eo.length (nI (mk 12))) 0 43 (nI (eo.length + 1))) := f2.mv ((FR.zA2 lv M2 42 _ _ (Or.inr rfl)).tr (FR.zI lv _ 43 _ (by decide) (by decide))) (gI_n _ _ (fun z => by omega)) (gI_n _ _ (fun z => by omega)) (gI_n _ _ (fun z => by omega))
          have fo : FOc S0 2 (tP v n k) := by
            rcases hO with ⟨-, z⟩ | ⟨z, -⟩
            · exact z
            · omega
          refine ⟨_, ?_, Or.inl ⟨2, _, Or.inl fo, f4⟩⟩
          rw [wh_inl (step M2 g2 e43)]
          refine wh_inr ?_
          unfold Model_expression_l23
          rw [f_is f4, mb_bd, if_pos rfl]
        · have x2 := x_next x1 r2
          have e43 : gI (pI (pI M 0 12 (nI (ne + 1))) 0 11 (nI (k + 1))) 0 43 = nI eo.length := x2.2.2.2.2.2.2.2.1
          have x3 := x_push (x := 12) x2 (by omega)
          rcases hO with ⟨z, -⟩ | ⟨-, S1, hS1⟩
          · omega
          have hJ : JX v n lv S0 M0 Ms sd so sl lo bo bv T ex nN pd tl wq x0 (k + 1) 9 (ne + 1) (12 :: eo) ev mf mp cz ec S1 (pI (pA (pI (pI M 0 12 (nI (ne + 1))) 0 11 (nI (k + 1))) 0 42 eo.length (nI (mk 12))) 0 43 (nI (eo.length + 1))) := by
            refine ⟨hS1, x3, ⟨hk1, Or.inl rfl⟩, ?_, by omega, ?_, ?_, ?_, hD, fun z => absurd z (by decide)⟩
            · show c12 eo + 1 = ne + 1
              omega
            · show ec + (nbW eo + 0) ≤ k + 1
              omega
            · show cz + (pW (eo ++ bo) + 0) ≤ k + 1
              omega
            · rw [if_neg (by omega)] at hk6
              rw [if_neg (by decide)]
              show ev.length = nbW eo + 0 + 0
              omega
          obtain ⟨M4, g4, o4⟩ := j_open hF d (by omega) hJ (Or.inr rfl) (fun z => absurd z (by decide))
          refine ⟨M4, by rw [wh_inl (step _ g2 e43)]; exact g4, ?_⟩
          rcases o4 with z | ⟨k', st', ne', eo', ev', mf', mp', cz', ec', S', z1, z2⟩
          · exact Or.inl z
          · exact Or.inr ⟨k', st', ne', eo', ev', mf', mp', cz', ec', S', by omega, z2⟩
    · refine ⟨M, wh_inr ?_, Or.inr ⟨k, st, ne, eo, ev, mf, mp, cz, ec, S, Nat.le_refl k, hst, h25, c, h⟩⟩
      unfold Model_expression_l23
      rw [show f_Model_is M 9 = _ from r_is hX.1 h0 (x := 12) (by decide), mb_bd, beq_f c, if_pos (by rfl)]
