/-! both read an expression -/
def eok : List Nat → Prop
  | [] => True
  | x :: r => eok r ∧ (x = 12 ∨ (x = 7 ∧ ¬ r.headD 0 = 7) ∨ ((x = 5 ∨ x = 6) ∧ ¬ r.headD 0 = 7 ∧ ¬ r.headD 0 = 5 ∧ ¬ r.headD 0 = 6))
def c12 : List Nat → Nat
  | [] => 0
  | x :: r => c12 r + cond (Nat.beq x 12) 1 0
def pW : List Nat → Nat
  | [] => 0
  | x :: r => pW r + cond (Nat.beq x 12) 0 1
def bon (x : Nat) : Nat := if x = 7 then 2 else if x = 5 then 1 else if x = 6 then 1 else 0
theorem eok_len : ∀ {eo : List Nat}, eok eo → eo.length ≤ 3 * c12 eo + bon (eo.headD 0)
  | [], _ => Nat.le_refl 0
  | x :: r, h => by
    have ih := eok_len h.1
    show r.length + 1 ≤ 3 * (c12 r + cond (Nat.beq x 12) 1 0) + bon x
    have hb : bon (r.headD 0) ≤ 2 := by
      unfold bon
      by_cases c1 : r.headD 0 = 7
      · rw [if_pos c1]; exact Nat.le_refl _
      rw [if_neg c1]
      by_cases c2 : r.headD 0 = 5
      · rw [if_pos c2]; decide
      rw [if_neg c2]
      by_cases c3 : r.headD 0 = 6
      · rw [if_pos c3]; decide
      rw [if_neg c3]; decide
    rcases h.2 with rfl | ⟨rfl, h1⟩ | ⟨h0, h1, h2, h3⟩
    · show r.length + 1 ≤ 3 * (c12 r + 1) + bon 12
      omega
    · show r.length + 1 ≤ 3 * (c12 r + 0) + 2
      have : bon (r.headD 0) ≤ 1 := by
        unfold bon
        rw [if_neg h1]
        by_cases c2 : r.headD 0 = 5
        · rw [if_pos c2]; exact Nat.le_refl _
        rw [if_neg c2]
        by_cases c3 : r.headD 0 = 6
        · rw [if_pos c3]; exact Nat.le_refl _
        rw [if_neg c3]; decide
      omega
    · have e0 : bon (r.headD 0) = 0 := by
        unfold bon
        rw [if_neg h1, if_neg h2, if_neg h3]
      rcases h0 with rfl | rfl
      · show r.length + 1 ≤ 3 * (c12 r + 0) + 1
        omega
      · show r.length + 1 ≤ 3 * (c12 r + 0) + 1
        omega
theorem eok_mem : ∀ {eo : List Nat}, eok eo → ∀ x ∈ eo, x = 12 ∨ x = 7 ∨ x = 5 ∨ x = 6
  | [], _, x, hx => absurd hx List.not_mem_nil
  | y :: r, h, x, hx => by
    rcases List.mem_cons.mp hx with e | e
    · subst e
      rcases h.2 with z | ⟨z, -⟩ | ⟨z, -⟩
      · exact Or.inl z
      · exact Or.inr (Or.inl z)
      · rcases z with z | z
        · exact Or.inr (Or.inr (Or.inl z))
        · exact Or.inr (Or.inr (Or.inr z))
    · exact eok_mem h.1 x e
def bOK (bo : List Nat) : Prop := bo.length ≤ 4 ∧ ∀ x ∈ bo, tg x ≤ 4 ∧ 1 ≤ tg x ∧ (isB2 x = true ∨ x = 25)
theorem nbW_app : ∀ (a b : List Nat), nbW (a ++ b) = nbW a + nbW b
  | [], b => by show nbW b = 0 + nbW b; omega
  | x :: a, b => by
    show nbW (a ++ b) + cond (isB2 x) 1 0 = nbW a + cond (isB2 x) 1 0 + nbW b
    rw [nbW_app a b]
    omega
theorem pW_app : ∀ (a b : List Nat), pW (a ++ b) = pW a + pW b
  | [], b => by show pW b = 0 + pW b; omega
  | x :: a, b => by
    show pW (a ++ b) + cond (Nat.beq x 12) 0 1 = pW a + cond (Nat.beq x 12) 0 1 + pW b
    rw [pW_app a b]
    omega
theorem st_app {x : Nat} (hx : isB2 x = true) {ev : List Sem} (h : 2 ≤ ev.length) (bv : List Sem) : stI (x, 0) (ev ++ bv) = stI (x, 0) ev ++ bv := by
  match ev, h with
  | g :: f :: r, _ => rw [List.cons_append, List.cons_append, st_bin hx, st_bin hx, List.cons_append]
/-- popping arithmetic -/
theorem rel_e (t : Nat) (ht : t = 5 ∨ t = 6) : ∀ {eo : List Nat} {ev : List Sem}, eok eo → ev.length = nbW eo + 1 → eok (rel t eo ev).1 ∧ c12 (rel t eo ev).1 = c12 eo ∧ ¬ (rel t eo ev).1.headD 0 = 7 ∧ (t = 5 → ¬ (rel t eo ev).1.headD 0 = 5 ∧ ¬ (rel t eo ev).1.headD 0 = 6) ∧ (rel t eo ev).2.length = nbW (rel t eo ev).1 + 1 ∧ (rel t eo ev).1.length ≤ eo.length ∧ nbW (rel t eo ev).1 + (eo.length - (rel t eo ev).1.length) = nbW eo ∧ pW (rel t eo ev).1 + (eo.length - (rel t eo ev).1.length) = pW eo
  | [], ev, _, h => ⟨trivial, rfl, (show ¬ (0 : Nat) = 7 by decide), (fun _ => show ¬ (0 : Nat) = 5 ∧ ¬ (0 : Nat) = 6 by decide), h, Nat.le_refl _, rfl, rfl⟩
  | x :: r, ev, hk, h => by
    have e : rel t (x :: r) ev = if tg x < t then (x :: r, ev) else rel t r (stI (x, 0) ev) := rfl
    rw [e]
    by_cases c : tg x < t
    · rw [if_pos c]
      refine ⟨hk, rfl, ?_, fun h5 => ?_, h, Nat.le_refl _, by rw [Nat.sub_self]; rfl, by rw [Nat.sub_self]; rfl⟩
      · intro z
        have z : x = 7 := z
        subst z
        rcases ht with rfl | rfl <;> exact absurd c (by decide)
      · subst h5
        refine ⟨fun z => ?_, fun z => ?_⟩
        · have z : x = 5 := z
          subst z
          exact absurd c (by decide)
        · have z : x = 6 := z
          subst z
          exact absurd c (by decide)
    · rw [if_neg c]
      have hx : x = 7 ∨ x = 5 ∨ x = 6 := by
        rcases eok_mem hk x List.mem_cons_self with z | z
        · subst z
          exfalso
          exact c (by rcases ht with rfl | rfl <;> decide)
        · exact z
      have hx2 : isB2 x = true ∧ Nat.beq x 12 = false := by rcases hx with rfl | rfl | rfl <;> exact ⟨rfl, rfl⟩
      obtain ⟨l1, -⟩ := stI_len (r := r) (Or.inl hx2.1) (by omega) h
      obtain ⟨i1, i2, i3, i4, i5, i6, i7, i8⟩ := rel_e t ht hk.1 l1
      refine ⟨i1, ?_, i3, i4, i5, by show _ ≤ r.length + 1; omega, ?_, ?_⟩
      · rw [i2]
        show c12 r = c12 r + cond (Nat.beq x 12) 1 0
        rw [hx2.2]
        rfl
      · show _ + (r.length + 1 - _) = nbW r + cond (isB2 x) 1 0
        rw [hx2.1]
        show _ = nbW r + 1
        omega
      · show _ + (r.length + 1 - _) = pW r + cond (Nat.beq x 12) 0 1
        rw [hx2.2]
        show _ = pW r + 1
        omega
theorem rel_stop {t : Nat} {bo : List Nat} {vl : List Sem} (h : bo = [] ∨ tg (bo.headD 0) < t) : rel t bo vl = (bo, vl) := by
  cases bo with
  | nil => rfl
  | cons x r =>
    have h : tg x < t := by
      rcases h with z | z
      · cases z
      · exact z
    show (if tg x < t then _ else _) = _
    rw [if_pos h]
theorem rel_app (t : Nat) (ht : t = 5 ∨ t = 6) {bo : List Nat} {bv : List Sem} (hb : bOK bo) : ∀ {eo : List Nat} {ev : List Sem}, eok eo → ev.length = nbW eo + 1 → rel t (eo ++ bo) (ev ++ bv) = ((rel t eo ev).1 ++ bo, (rel t eo ev).2 ++ bv)
  | [], ev, _, _ => by
    show rel t bo (ev ++ bv) = (bo, ev ++ bv)
    refine rel_stop ?_
    cases bo with
    | nil => exact Or.inl rfl
    | cons x r =>
      right
      have := (hb.2 x List.mem_cons_self).1
      show tg x < t
      omega
  | x :: r, ev, hk, h => by
    have e : rel t (x :: r) ev = if tg x < t then (x :: r, ev) else rel t r (stI (x, 0) ev) := rfl
    have e2 : rel t (x :: r ++ bo) (ev ++ bv) = if tg x < t then (x :: (r ++ bo), ev ++ bv) else rel t (r ++ bo) (stI (x, 0) (ev ++ bv)) := rfl
    rw [e, e2]
    by_cases c : tg x < t
    · rw [if_pos c, if_pos c]
      rfl
    · rw [if_neg c, if_neg c]
      have hx : x = 7 ∨ x = 5 ∨ x = 6 := by
        rcases eok_mem hk x List.mem_cons_self with z | z
        · subst z
          exfalso
          exact c (by rcases ht with rfl | rfl <;> decide)
        · exact z
      have hx2 : isB2 x = true := by rcases hx with rfl | rfl | rfl <;> rfl
      obtain ⟨l1, -⟩ := stI_len (r := r) (Or.inl hx2) (by omega) h
      have h2 : 2 ≤ ev.length := by
        have h : ev.length = nbW r + cond (isB2 x) 1 0 + 1 := h
        rw [hx2] at h
        have h : ev.length = nbW r + 1 + 1 := h
        omega
      rw [st_app hx2 h2]
      exact rel_app t ht hb hk.1 l1
/-- looser releases begin as the arithmetic ones -/
theorem rel_15 {t : Nat} (ht : 1 ≤ t) (ht5 : t ≤ 5) : ∀ {eo bo : List Nat} {ev bv : List Sem}, eok eo → ev.length = nbW eo + 1 → rel t (eo ++ bo) (ev ++ bv) = rel t ((rel 5 eo ev).1 ++ bo) ((rel 5 eo ev).2 ++ bv)
  | [], bo, ev, bv, _, _ => rfl
  | x :: r, bo, ev, bv, hk, h => by
    have e : rel 5 (x :: r) ev = if tg x < 5 then (x :: r, ev) else rel 5 r (stI (x, 0) ev) := rfl
    have e2 : rel t (x :: r ++ bo) (ev ++ bv) = if tg x < t then (x :: (r ++ bo), ev ++ bv) else rel t (r ++ bo) (stI (x, 0) (ev ++ bv)) := rfl
    by_cases c : tg x < 5
    · rw [e, if_pos c]
    · rw [e, if_neg c, e2, if_neg (by omega)]
      have hx : x = 7 ∨ x = 5 ∨ x = 6 := by
        rcases eok_mem hk x List.mem_cons_self with z | z
        · subst z
          exact absurd (show tg 12 < 5 by decide) c
        · exact z
      have hx2 : isB2 x = true := by rcases hx with rfl | rfl | rfl <;> rfl
      obtain ⟨l1, -⟩ := stI_len (r := r) (Or.inl hx2) (by omega) h
      have h2 : 2 ≤ ev.length := by
        have h : ev.length = nbW r + cond (isB2 x) 1 0 + 1 := h
        rw [hx2] at h
        have h : ev.length = nbW r + 1 + 1 := h
        omega
      rw [st_app hx2 h2]
      exact rel_15 ht ht5 hk.1 l1
/-! the reference inside an expression -/
def exI : List Nat := [11, 12, 13, 14, 15, 16, 38, 43]
def XF (dv x0 : Nat) (Ms M : St) : Prop := agZ exI [39, 40, 42] [] Ms M ∧ gL M = gL Ms ∧ ∀ j, j < 500 * dv + x0 → gA M 0 39 j = gA Ms 0 39 j ∧ gA M 0 40 j = gA Ms 0 40 j
def RE (dv x0 nf mf : Nat) (eo : List Nat) (ev : List Sem) (ec : Nat) (M : St) : Prop := gI M 0 43 = nI eo.length ∧ (∀ i x, eo[i]? = some x → gA M 0 42 (eo.length - 1 - i) = nI (mk x)) ∧ (mf = 0 → ∃ is, ec = x0 + is.length ∧ RCD M (500 * dv + x0) is ∧ okI nf is [] ∧ rnS is [] = ev)
def XR (v : Nat → Nat) (n lv : Nat) (M0 : St) (x0 nf k : Nat) (eo : List Nat) (ev : List Sem) (ec mf mp ne : Nat) (Ms M : St) : Prop := RA v n lv M0 k M ∧ XF (1 - lv) x0 Ms M ∧ gI M 0 12 = nI ne ∧ gI M 0 38 = nI (500 * (1 - lv) + ec) ∧ (x0 ≤ ec ∧ (mf = 0 → gI Ms 0 15 = 0)) ∧ gI M 0 15 = nI mf ∧ (¬ mf = 0 → gI M 0 16 = nI mp) ∧ RE (1 - lv) x0 nf mf eo ev ec M
section XRS
variable {v : Nat → Nat} {n lv x0 nf k ec mf mp ne : Nat} {M0 Ms M M' : St} {eo : List Nat} {ev : List Sem}
/-- small changes that leave the codes -/
theorem XR.mv {k' mf' mp' ne' : Nat} (h : XR v n lv M0 x0 nf k eo ev ec mf mp ne Ms M) (hm : mf' = 0 → mf = 0) (hA : RA v n lv M0 k' M') (a : agZ [11, 12, 15, 16] [] [] M M') (hl : gL M' = gL M) (h12 : gI M' 0 12 = nI ne') (h15 : gI M' 0 15 = nI mf') (h16 : ¬ mf' = 0 → gI M' 0 16 = nI mp') : XR v n lv M0 x0 nf k' eo ev ec mf' mp' ne' Ms M' := by
  obtain ⟨q1, q2, q3, q4, q5, q6, q7, q8⟩ := h
  refine ⟨hA, ⟨q2.1.tr (a.wk (by decide) (by decide) (by decide)), hl.trans q2.2.1, by rw [a.2.1 39 (by decide), a.2.1 40 (by decide)]; exact q2.2.2⟩, h12, by rw [a.1 38 (by decide)]; exact q4, ⟨q5.1, fun z => q5.2 (hm z)⟩, h15, h16, by rw [a.1 43 (by decide)]; exact q8.1, by rw [a.2.1 42 (by decide)]; exact q8.2.1, fun z => ?_⟩
  unfold RCD
  rw [a.2.1 39 (by decide), a.2.1 40 (by decide)]
  exact q8.2.2 (hm z)
theorem x_emit (hlv : lv < 2) (h : XR v n lv M0 x0 nf k eo ev ec mf mp ne Ms M) {x d : Nat} (hx : isA x) (hec : ec < 499) (hok : mf = 0 → ok1 nf (x, d) ev.length ∧ ev.length ≤ 61) : ∃ M', f_Model_emit M (nI (rk x)) (nI d) = some M' ∧ XR v n lv M0 x0 nf k eo (stI (x, d) ev) (ec + 1) mf mp ne Ms M' := by
  obtain ⟨q1, q2, q3, q4, q5, q6, q7, q8⟩ := h
  unfold f_Model_emit
  rw [q4, mb_in (by omega) (by decide), mb_gd, mb_nm, mb_cl (by omega), mb_IA, q4, mb_in (by omega) (by decide), mb_gd, mb_nm, mb_cl (by omega), mb_IA, mb_IA, q4, nI_1, mb_nm]
  have fr : FR lv M (pI (pA (pA M 0 39 (500 * (1 - lv) + ec) (nI (rk x))) 0 40 (500 * (1 - lv) + ec) (nI d)) 0 38 (nI (500 * (1 - lv) + ec + 1))) := ((FR.zA hlv M 39 500 ec _ (by decide) (by decide) (by omega) rfl).tr (FR.zA hlv _ 40 500 ec _ (by decide) (by decide) (by omega) rfl)).tr (FR.zI lv _ 38 _ (by decide) (by decide))
  obtain ⟨M1, eM⟩ : ∃ M1, M1 = pI (pA (pA M 0 39 (500 * (1 - lv) + ec) (nI (rk x))) 0 40 (500 * (1 - lv) + ec) (nI d)) 0 38 (nI (500 * (1 - lv) + ec + 1)) := ⟨_, rfl⟩
  rw [← eM] at fr ⊢
  have a : agZ [38] [39, 40] [] M M1 := by
    rw [eM]
    exact ((agZ.pA M 39 _ _ (by decide)).tr (agZ.pA _ 40 _ _ (by decide))).tr (agZ.pI _ 38 _ (by decide))
  have f39 : ∀ j, gA M1 0 39 j = if j = 500 * (1 - lv) + ec then nI (rk x) else gA M 0 39 j := by
    intro j
    rw [eM, mb_AI, gA_n _ _ (fun z => by omega), mb_AA]
    by_cases e : j = 500 * (1 - lv) + ec
    · rw [if_pos ⟨rfl, rfl, e⟩, if_pos e]
    · rw [if_neg (fun z => e z.2.2), if_neg e]
  have f40 : ∀ j, gA M1 0 40 j = if j = 500 * (1 - lv) + ec then nI d else gA M 0 40 j := by
    intro j
    rw [eM, mb_AI, mb_AA]
    by_cases e : j = 500 * (1 - lv) + ec
    · rw [if_pos ⟨rfl, rfl, e⟩, if_pos e]
    · rw [if_neg (fun z => e z.2.2), if_neg e, gA_n _ _ (fun z => by omega)]
  refine ⟨M1, rfl, ⟨q1.1.tr fr, by rw [a.1 13 (by decide)]; exact q1.2.1, by rw [a.1 11 (by decide)]; exact q1.2.2.1, q1.2.2.2⟩, ⟨q2.1.tr (a.wk (by decide) (by decide) (by decide)), by rw [eM]; exact q2.2.1, fun j hj => ?_⟩, by rw [a.1 12 (by decide)]; exact q3, by rw [eM, gI_s]; rfl, ⟨by omega, q5.2⟩, by rw [a.1 15 (by decide)]; exact q6, fun z => by rw [a.1 16 (by decide)]; exact q7 z, by rw [a.1 43 (by decide)]; exact q8.1, by rw [a.2.1 42 (by decide)]; exact q8.2.1, fun z => ?_⟩
  · rw [f39, f40, if_neg (by omega), if_neg (by omega)]
    exact q2.2.2 j hj
  · obtain ⟨is, t1, t2, t3, t4⟩ := q8.2.2 z
    obtain ⟨o1, o2⟩ := hok z
    refine ⟨is ++ [(x, d)], by rw [List.length_append]; show ec + 1 = x0 + (is.length + 1); omega, fun i c hi => ?_, okI_snoc _ t3 (by rw [t4]; exact o1) (by rw [t4]; exact o2), by rw [rnS_snoc, t4]⟩
    rw [f39, f40]
    by_cases e : i < is.length
    · rw [List.getElem?_append_left e] at hi
      rw [if_neg (by omega), if_neg (by omega)]
      exact t2 i c hi
    · have hlt := (List.getElem?_eq_some_iff.mp hi).1
      rw [List.length_append] at hlt
      have hlt : i < is.length + 1 := hlt
      have ei : i = is.length := by omega
      subst ei
      rw [List.getElem?_append_right (Nat.le_refl _), Nat.sub_self] at hi
      cases hi
      rw [if_pos (by omega), if_pos (by omega)]
      exact ⟨rfl, rfl, hx⟩
theorem x_pop {x : Nat} (h : XR v n lv M0 x0 nf k (x :: eo) ev ec mf mp ne Ms M) (hl : eo.length ≤ 40) : XR v n lv M0 x0 nf k eo ev ec mf mp ne Ms (pI M 0 43 (gI M 0 43 - 1)) := by
  obtain ⟨q1, q2, q3, q4, q5, q6, q7, q8⟩ := h
  have a : agZ [43] [] [] M (pI M 0 43 (gI M 0 43 - 1)) := agZ.pI M 43 _ (by decide)
  have e43 : gI M 0 43 = nI (eo.length + 1) := q8.1
  refine ⟨⟨q1.1.tr (FR.zI lv M 43 _ (by decide) (by decide)), by rw [a.1 13 (by decide)]; exact q1.2.1, by rw [a.1 11 (by decide)]; exact q1.2.2.1, q1.2.2.2⟩, ⟨q2.1.tr (a.wk (by decide) (by decide) (by decide)), q2.2.1, q2.2.2⟩, by rw [a.1 12 (by decide)]; exact q3, by rw [a.1 38 (by decide)]; exact q4, q5, by rw [a.1 15 (by decide)]; exact q6, fun z => by rw [a.1 16 (by decide)]; exact q7 z, by rw [gI_s, e43, nI_pred], fun i y hi => ?_, q8.2.2⟩
  have := q8.2.1 (i + 1) y hi
  have this : gA M 0 42 (eo.length + 1 - 1 - (i + 1)) = nI (mk y) := this
  rw [show eo.length + 1 - 1 - (i + 1) = eo.length - 1 - i by omega] at this
  exact this
theorem x_push {x : Nat} (h : XR v n lv M0 x0 nf k eo ev ec mf mp ne Ms M) (hl : eo.length ≤ 40) : XR v n lv M0 x0 nf k (x :: eo) ev ec mf mp ne Ms (pI (pA M 0 42 eo.length (nI (mk x))) 0 43 (nI (eo.length + 1))) := by
  obtain ⟨q1, q2, q3, q4, q5, q6, q7, q8⟩ := h
  have a : agZ [43] [42] [] M (pI (pA M 0 42 eo.length (nI (mk x))) 0 43 (nI (eo.length + 1))) := (agZ.pA M 42 _ _ (by decide)).tr (agZ.pI _ 43 _ (by decide))
  refine ⟨⟨q1.1.tr ((FR.zA2 lv M 42 _ _ (Or.inr rfl)).tr (FR.zI lv _ 43 _ (by decide) (by decide))), by rw [a.1 13 (by decide)]; exact q1.2.1, by rw [a.1 11 (by decide)]; exact q1.2.2.1, q1.2.2.2⟩, ⟨q2.1.tr (a.wk (by decide) (by decide) (by decide)), q2.2.1, by rw [a.2.1 39 (by decide), a.2.1 40 (by decide)]; exact q2.2.2⟩, by rw [a.1 12 (by decide)]; exact q3, by rw [a.1 38 (by decide)]; exact q4, q5, by rw [a.1 15 (by decide)]; exact q6, fun z => by rw [a.1 16 (by decide)]; exact q7 z, gI_s _ _ _ _, fun i y hi => ?_, fun z => ?_⟩
  · rw [mb_AI]
    show gA (pA M 0 42 eo.length (nI (mk x))) 0 42 (eo.length + 1 - 1 - i) = nI (mk y)
    cases i with
    | zero =>
      have hi : some x = some y := hi
      cases hi
      rw [show eo.length + 1 - 1 - 0 = eo.length by omega, gA_s]
    | succ i =>
      have hi : eo[i]? = some y := hi
      have hlt := (List.getElem?_eq_some_iff.mp hi).1
      rw [gA_n _ _ (fun z => by omega), show eo.length + 1 - 1 - (i + 1) = eo.length - 1 - i by omega]
      exact q8.2.1 i y hi
  · unfold RCD
    rw [a.2.1 39 (by decide), a.2.1 40 (by decide)]
    exact q8.2.2 z
/-- pending signs come out -/
theorem x_out (hlv : lv < 2) {y : Nat} (hy : y ≤ 1) : ∀ (eo : List Nat) {ev : List Sem} {ec : Nat} {M : St}, XR v n lv M0 x0 nf k eo ev ec mf mp ne Ms M → eok eo → eo.length ≤ 40 → ev.length = nbW eo + 1 → ec + eo.length ≤ 480 → ∃ M', wh (Model_comesOut_l0 (nI y)) M = some M' ∧ XR v n lv M0 x0 nf k (rel (5 + y) eo ev).1 (rel (5 + y) eo ev).2 (ec + (eo.length - (rel (5 + y) eo ev).1.length)) mf mp ne Ms M'
  | [], ev, ec, M, h, _, _, _, _ => by
    refine ⟨M, wh_inr ?_, h⟩
    unfold Model_comesOut_l0
    have : gI M 0 43 = nI 0 := h.2.2.2.2.2.2.2.1
    rw [this, if_pos (by decide)]
  | x :: r, ev, ec, M, h, hk, h40, hl, hc => by
    have h40 : r.length + 1 ≤ 40 := h40
    have hc : ec + (r.length + 1) ≤ 480 := hc
    have e43 : gI M 0 43 = nI (r.length + 1) := h.2.2.2.2.2.2.2.1
    have e42 := h.2.2.2.2.2.2.2.2.1 0 x rfl
    have e42 : gA M 0 42 (r.length + 1 - 1 - 0) = nI (mk x) := e42
    rw [show r.length + 1 - 1 - 0 = r.length by omega] at e42
    have e : rel (5 + y) (x :: r) ev = if tg x < 5 + y then (x :: r, ev) else rel (5 + y) r (stI (x, 0) ev) := rfl
    have hm := eok_mem hk x List.mem_cons_self
    -- the step
    have head : Model_comesOut_l0 (nI y) M = (if tg x < 5 + y then some (.inr M) else Model_comesOut_j59_l0 M (nI y)) := by
      unfold Model_comesOut_l0
      rw [e43, if_neg (by rw [l0, mb_le (by omega) (by omega)]; omega), nI_pred, mb_in (by omega) (by decide), mb_gd, mb_gd, mb_gd, mb_cl (by omega), e42]
      rcases (show y = 0 ∨ y = 1 by omega) with rfl | rfl
      · rcases hm with rfl | rfl | rfl | rfl
        · rw [if_neg (by decide), if_pos (by rfl), if_neg (by decide), if_neg (by decide), if_pos (by decide)]
        · rw [if_pos (by rfl), if_neg (by decide)]
        · rw [if_neg (by decide), if_pos (by rfl), if_pos (by rfl), if_neg (by decide)]
        · rw [if_neg (by decide), if_pos (by rfl), if_neg (by decide), if_pos (by rfl), if_neg (by decide)]
      · rcases hm with rfl | rfl | rfl | rfl
        · rw [if_neg (by decide), if_neg (by decide), if_pos (by decide)]
        · rw [if_pos (by rfl), if_neg (by decide)]
        · rw [if_neg (by decide), if_neg (by decide), if_pos (by decide)]
        · rw [if_neg (by decide), if_neg (by decide), if_pos (by decide)]
    rw [e]
    by_cases c : tg x < 5 + y
    · rw [if_pos c] at head ⊢
      refine ⟨M, wh_inr head, ?_⟩
      rw [Nat.sub_self]
      exact h
    · rw [if_neg c] at head ⊢
      have hx : x = 7 ∨ x = 5 ∨ x = 6 := by
        rcases hm with z | z
        · subst z
          exact absurd (show tg 12 < 5 + y by show 0 < 5 + y; omega) c
        · exact z
      have hx2 : isB2 x = true := by rcases hx with rfl | rfl | rfl <;> rfl
      obtain ⟨l1, l2⟩ := stI_len (r := r) (Or.inl hx2) (by omega) hl
      have h1 := x_pop h (by omega)
      have hvl : ev.length ≤ 61 := by
        have := nbW_le (x :: r)
        have this : nbW (x :: r) ≤ r.length + 1 := this
        omega
      obtain ⟨M2, g2, h2⟩ := x_emit hlv h1 (x := x) (d := 0) (by unfold isA; omega) (by omega) (fun _ => ⟨ok1_mono (Nat.zero_le _) l2, hvl⟩)
      obtain ⟨M3, g3, h3⟩ := x_out hlv hy r h2 hk.1 (by omega) l1 (by omega)
      obtain ⟨i1, i2, i3, i4, i5, i6, i7, i8⟩ := rel_e (5 + y) (by omega) hk.1 l1
      refine ⟨M3, ?_, ?_⟩
      · rw [← g3]
        refine wh_inl ?_
        rw [head]
        unfold Model_comesOut_j59_l0 Model_comesOut_j101_l0
        have hM : gI (pI M 0 43 (gI M 0 43 - 1)) 0 43 = nI r.length := h1.2.2.2.2.2.2.2.1
        rw [mb_nm, hM, mb_in (by omega) (by decide), mb_gd, mb_nm, mb_cl (by omega), mb_AI, e42]
        rcases hx with rfl | rfl | rfl
        · rw [if_neg (by decide), if_neg (by decide), show f_Model_emit (pI M 0 43 (gI M 0 43 - 1)) 5 0 = _ from g2, mb_bd]
        · rw [if_pos (by rfl), show f_Model_emit (pI M 0 43 (gI M 0 43 - 1)) 3 0 = _ from g2, mb_bd]
        · rw [if_neg (by decide), if_pos (by rfl), show f_Model_emit (pI M 0 43 (gI M 0 43 - 1)) 4 0 = _ from g2, mb_bd]
      · have e2 : ec + ((x :: r).length - (rel (5 + y) r (stI (x, 0) ev)).1.length) = ec + 1 + (r.length - (rel (5 + y) r (stI (x, 0) ev)).1.length) := by
          show ec + (r.length + 1 - _) = _
          omega
        rw [e2]
        exact h3
theorem x_comes (hlv : lv < 2) {y : Nat} (hy : y ≤ 1) (h : XR v n lv M0 x0 nf k eo ev ec mf mp ne Ms M) (hk : eok eo) (h40 : eo.length ≤ 40) (hl : ev.length = nbW eo + 1) (hc : ec + eo.length ≤ 480) : ∃ M', f_Model_comesOut M (nI y) = some M' ∧ XR v n lv M0 x0 nf k (rel (5 + y) eo ev).1 (rel (5 + y) eo ev).2 (ec + (eo.length - (rel (5 + y) eo ev).1.length)) mf mp ne Ms M' := by
  obtain ⟨M', g1, h1⟩ := x_out hlv hy eo h hk h40 hl hc
  refine ⟨M', ?_, h1⟩
  unfold f_Model_comesOut Model_comesOut_j108
  rw [g1, mb_bd]
end XRS
