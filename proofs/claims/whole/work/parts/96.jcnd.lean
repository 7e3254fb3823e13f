/-! both read a condition: literals, and, or -/
variable {v : Nat → Nat} {n lv : Nat} {S0 S M0 M : St} {T : Tx} {ex : Option Sem} {nN : Nat → List Nat} {pd mf mp cz ec lc sd so ne sl lo k st f p : Nat} {wq : Option Nat} {tl : Nat → Nat} {bo : List Nat} {bv : List Sem}
def acS (now old : Nat → Int32) (q : Bool × Bool) (l : Bool × BSem) : Bool × Bool := cond l.1 (q.1 || q.2, l.2 now old) (q.1, q.2 && l.2 now old)
def acL (ls : List (Bool × BSem)) (now old : Nat → Int32) : Bool × Bool := ls.foldl (acS now old) (false, false)
theorem ac_true (now old : Nat → Int32) : ∀ (ls : List (Bool × BSem)) (q : Bool × Bool), (q.1 || q.2) = true → q.1 = true ∨ (∀ o l, ls.head? = some (o, l) → o = true) → ls = [] ∨ ((ls.foldl (acS now old) q).1 = true)
  | [], _, _, _ => Or.inl rfl
  | (o, l) :: r, q, hq, hh => by
    right
    have h1 : (acS now old q (o, l)).1 = true := by
      unfold acS
      cases o with
      | true => exact hq
      | false =>
        rcases hh with z | z
        · exact z
        · exact absurd (z false l rfl) (by decide)
    show (r.foldl (acS now old) (acS now old q (o, l))).1 = true
    rcases ac_true now old r (acS now old q (o, l)) (by rw [h1]; rfl) (Or.inl h1) with z | z
    · rw [z]; exact h1
    · exact z
theorem foL_ac (now old : Nat → Int32) : ∀ (ls : List (Bool × BSem)) (x : Bool), foL ls x now old = ((ls.foldl (acS now old) (false, x)).1 || (ls.foldl (acS now old) (false, x)).2)
  | [], x => rfl
  | (o, l) :: r, x => by
    show cond (o && x) true (foL r ((o || x) && l now old) now old) = ((r.foldl (acS now old) (acS now old (false, x) (o, l))).1 || (r.foldl (acS now old) (acS now old (false, x) (o, l))).2)
    cases o with
    | true =>
      cases x with
      | true =>
        have h1 : (acS now old (false, true) (true, l)).1 = true := rfl
        rcases ac_true now old r (acS now old (false, true) (true, l)) (by rw [h1]; rfl) (Or.inl h1) with z | z
        · rw [z]; rfl
        · rw [z]; rfl
      | false => exact foL_ac now old r (l now old)
    | false => exact foL_ac now old r (x && l now old)
theorem acL_snoc (ls : List (Bool × BSem)) (q : Bool × BSem) (now old : Nat → Int32) : acL (ls ++ [q]) now old = acS now old (acL ls now old) q := by
  unfold acL
  rw [List.foldl_append]
  rfl
def acO (ls : List (Bool × BSem)) : Sem := fun now old => b2i ((acL ls now old).1 || (acL ls now old).2)
def acC (ls : List (Bool × BSem)) : Sem := fun now old => b2i (acL ls now old).2
def acA (ls : List (Bool × BSem)) : Sem := fun now old => b2i (acL ls now old).1
theorem acO_cn {ls : List (Bool × BSem)} (h : ¬ ls = []) : acO ls = fun now old => b2i (cnB ls now old) := by
  funext now old
  cases ls with
  | nil => exact absurd rfl h
  | cons q r =>
    show b2i ((acL (q :: r) now old).1 || (acL (q :: r) now old).2) = b2i (foL (q :: r) false now old)
    rw [foL_ac]
    rfl
/-- how the waiting signs stand ahead of a literal -/
def LWS (ls : List (Bool × BSem)) (o : Bool) (bo : List Nat) (bv : List Sem) : Prop := (ls = [] ∧ o = true ∧ bo = [] ∧ bv = []) ∨ (o = true ∧ bo = [23] ∧ bv = [acO ls]) ∨ (o = false ∧ bo = [24] ∧ bv = [acC ls] ∧ ∀ now old, (acL ls now old).1 = false) ∨ (o = false ∧ bo = [24, 23] ∧ bv = [acC ls, acA ls])
theorem LWS.bo2 {ls : List (Bool × BSem)} {o : Bool} (h : LWS ls o bo bv) : bo2 bo ∧ bv.length = nbW bo := by
  rcases h with ⟨-, -, rfl, rfl⟩ | ⟨-, rfl, rfl⟩ | ⟨-, rfl, rfl, -⟩ | ⟨-, rfl, rfl⟩
  · exact ⟨⟨by decide, by decide⟩, rfl⟩
  · exact ⟨⟨by decide, by decide⟩, rfl⟩
  · exact ⟨⟨by decide, by decide⟩, rfl⟩
  · exact ⟨⟨by decide, by decide⟩, rfl⟩
theorem b2i_not (b : Bool) : (1 : Int32) - b2i b = b2i (xor b true) := by cases b <;> rfl
theorem b2i_and (a b : Bool) : b2i a &&& b2i b = b2i (a && b) := by cases a <;> cases b <;> rfl
theorem b2i_or (a b : Bool) : b2i a ||| b2i b = b2i (a || b) := by cases a <;> cases b <;> rfl
/-- a literal comes out -/
theorem lit_out {t x : Nat} (ht : 1 ≤ t) (ht2 : t ≤ 2) (hx1 : 8 ≤ x) (hx2 : x ≤ 11) (ng : Bool) (fS gS : Sem) {eo : List Nat} {ev : List Sem} (he : eok eo) (hl : ev.length = nbW eo + 1) (hr : rel 5 eo ev = ([], [gS])) : rel t (eo ++ x :: ngL ng bo) (ev ++ fS :: bv) = rel t bo ((fun now old => b2i (litB x ng fS gS now old)) :: bv) := by
  rw [rel_15 ht (by omega) he hl, hr]
  show rel t (x :: ngL ng bo) (gS :: fS :: bv) = _
  have hx : isB2 x = true ∧ tg x = 4 := by
    have : x = 8 ∨ x = 9 ∨ x = 10 ∨ x = 11 := by omega
    rcases this with rfl | rfl | rfl | rfl <;> exact ⟨rfl, rfl⟩
  have e : rel t (x :: ngL ng bo) (gS :: fS :: bv) = if tg x < t then (x :: ngL ng bo, gS :: fS :: bv) else rel t (ngL ng bo) (stI (x, 0) (gS :: fS :: bv)) := rfl
  rw [e, if_neg (by omega), st_bin hx.1]
  have e2 : (fun now old => apO x (fS now old) (gS now old) : Sem) = fun now old => b2i (cmpB x (fS now old) (gS now old)) := by
    funext now old
    exact apO_cmp hx1 hx2 _ _
  rw [e2]
  cases ng with
  | false =>
    show rel t bo _ = _
    congr 2
    funext now old
    show _ = b2i (xor _ false)
    rw [Bool.xor_false]
  | true =>
    show (if tg 25 < t then _ else rel t bo (stI (25, 0) _)) = _
    rw [if_neg (show ¬ tg 25 < t by show ¬ 3 < t; omega), st_not]
    congr 2
    funext now old
    exact b2i_not _
theorem lit_rel {ls : List (Bool × BSem)} {o : Bool} (h : LWS ls o bo bv) (l : BSem) : ∃ bo' bv', rel 2 bo ((fun now old => b2i (l now old)) :: bv) = (bo', bv') ∧ LWS (ls ++ [(o, l)]) false (24 :: bo') bv' ∧ rel 1 bo ((fun now old => b2i (l now old)) :: bv) = ([], [acO (ls ++ [(o, l)])]) := by
  have s1 : ∀ now old, acL (ls ++ [(o, l)]) now old = acS now old (acL ls now old) (o, l) := fun now old => acL_snoc ls (o, l) now old
  rcases h with ⟨rfl, rfl, rfl, rfl⟩ | ⟨rfl, rfl, rfl⟩ | ⟨rfl, rfl, rfl, h0⟩ | ⟨rfl, rfl, rfl⟩
  · refine ⟨[], [fun now old => b2i (l now old)], rfl, Or.inr (Or.inr (Or.inl ⟨rfl, rfl, ?_, fun now old => rfl⟩)), ?_⟩
    · rfl
    · show (([] : List Nat), [fun now old => b2i (l now old)]) = _
      congr 2
  · refine ⟨[23], [fun now old => b2i (l now old), acO ls], rfl, Or.inr (Or.inr (Or.inr ⟨rfl, rfl, ?_⟩)), ?_⟩
    · congr 1
      · funext now old
        unfold acC
        rw [s1]
        rfl
      · congr 1
        funext now old
        unfold acA acO
        rw [s1]
        rfl
    · show (([] : List Nat), stI (23, 0) [fun now old => b2i (l now old), acO ls]) = _
      rw [st_bin rfl]
      congr 2
      funext now old
      show acO ls now old ||| b2i (l now old) = _
      unfold acO
      rw [b2i_or, s1]
      rfl
  · refine ⟨[], [fun now old => acC ls now old &&& b2i (l now old)], ?_, Or.inr (Or.inr (Or.inl ⟨rfl, rfl, ?_, fun now old => ?_⟩)), ?_⟩
    · show (([] : List Nat), stI (24, 0) [fun now old => b2i (l now old), acC ls]) = _
      rw [st_bin rfl]
      rfl
    · congr 1
      funext now old
      unfold acC
      rw [b2i_and, s1]
      rfl
    · rw [s1]
      exact h0 now old
    · show (([] : List Nat), stI (24, 0) [fun now old => b2i (l now old), acC ls]) = _
      rw [st_bin rfl]
      congr 2
      funext now old
      show acC ls now old &&& b2i (l now old) = _
      unfold acC acO
      rw [b2i_and, s1]
      show _ = b2i ((acL ls now old).1 || ((acL ls now old).2 && l now old))
      rw [h0 now old]
      rfl
  · refine ⟨[23], [fun now old => acC ls now old &&& b2i (l now old), acA ls], ?_, Or.inr (Or.inr (Or.inr ⟨rfl, rfl, ?_⟩)), ?_⟩
    · show (([23] : List Nat), stI (24, 0) [fun now old => b2i (l now old), acC ls, acA ls]) = _
      rw [st_bin rfl]
      rfl
    · congr 1
      · funext now old
        unfold acC
        rw [b2i_and, s1]
        rfl
      · congr 1
        funext now old
        unfold acA
        rw [s1]
        rfl
    · show (([] : List Nat), stI (23, 0) (stI (24, 0) [fun now old => b2i (l now old), acC ls, acA ls])) = _
      rw [st_bin rfl, st_bin rfl]
      congr 2
      funext now old
      show acA ls now old ||| (acC ls now old &&& b2i (l now old)) = _
      unfold acA acC acO
      rw [b2i_and, b2i_or, s1]
      rfl
theorem ix_snoc {α : Type} {ls : List α} {q : α} {i : Nat} {y : α} (h : (ls ++ [q])[i]? = some y) : (i < ls.length ∧ ls[i]? = some y) ∨ (i = ls.length ∧ y = q) := by
  by_cases c : i < ls.length
  · rw [List.getElem?_append_left c] at h
    exact Or.inl ⟨c, h⟩
  · have hlt := (List.getElem?_eq_some_iff.mp h).1
    rw [List.length_append] at hlt
    have hlt : i < ls.length + 1 := hlt
    have e : i = ls.length := by omega
    subst e
    rw [List.getElem?_append_right (Nat.le_refl _), Nat.sub_self] at h
    have h : some q = some y := h
    cases h
    exact Or.inr ⟨rfl, rfl⟩
/-- the literals of a condition -/
theorem j_cond (h0 : TK0 v n lv M0) (hso : so < 6) (x1 x2 : Int32) (lc0 : Nat) : ∀ (d : Nat) {k cz mf mp ec : Nat} {ls : List (Bool × BSem)} {o : Bool} {bo : List Nat} {bv : List Sem} {S M : St}, 401 - k ≤ d → LWS ls o bo bv → CP v n S0 k 8 1 so 0 sl lo bo bv T ex nN pd mf mp cz tl wq S → RB v n lv M0 k T nN pd mf mp ec (lc0 + ls.length) M → gI M 0 41 = b2i (Nat.beq so 3) → ec ≤ k → 3 * (lc0 + ls.length) ≤ k → cz + pW bo ≤ k → DOK T nN mf mp → (mf = 0 → ∀ i o l, ls[i]? = some (o, l) → LIT M (1 - lv) ec (lc0 + i) o l) → ∃ M', wh (un3 (Model_tell_l291 x1 x2)) (M, (1 : Int32), b2i o) = some M' ∧ (FF S0 lv M0 M' ∨ ∃ k' ls' wl vl mf' mp' cz' ec' S', k < k' ∧ ¬ ls' = [] ∧ CP v n S0 k' 11 2 so 0 sl lo wl vl T ex nN pd mf' mp' cz' tl wq S' ∧ RB v n lv M0 k' T nN pd mf' mp' ec' (lc0 + ls'.length) M' ∧ LF (1 - lv) ec (lc0 + ls.length) M M' ∧ gI M' 0 41 = gI M 0 41 ∧ (mf' = 0 → mf = 0 ∧ ∀ i o l, ls'[i]? = some (o, l) → LIT M' (1 - lv) ec' (lc0 + i) o l) ∧ rel 1 wl vl = ([], [acO ls']) ∧ vl.length = nbW wl + 1 ∧ ec ≤ ec' ∧ ec' ≤ k' ∧ 3 * (lc0 + ls'.length) ≤ k' ∧ cz' + wl.length ≤ k' ∧ DOK T nN mf' mp' ∧ ¬ tK v n k' = 5 ∧ ¬ tK v n k' = 6 ∧ ¬ tK v n k' = 7 ∧ ¬ tK v n k' = 23 ∧ ¬ tK v n k' = 24)
  | 0, k, _, _, _, _, _, _, _, _, _, _, hd, _, _, hR, _, _, _, _, _, _ => by
    have := hR.1.2.2.2.1
    omega
  | d + 1, k, cz, mf, mp, ec, ls, o, bo, bv, S, M, hd, hLS, hC, hR, h41, hec, hlc, hcz, hD, hL => by
    obtain ⟨hbo, hbv⟩ := hLS.bo2
    obtain ⟨M1, g1, o1⟩ := j_lit h0 hbo hbv hso hC hR h41 hec hlc hcz hD o
    have e13 : gI M 0 13 = 0 := hR.1.2.1
    rcases o1 with ⟨f, p, fo, fm⟩ | ⟨k1, x, ng, fS, gS, eo, ev, mf1, mp1, cz1, ec1, S1, y1, y2, y3, y4, y5, y6, y7, y8, y9, y10, y11, y12, y13, y14, y15, y16, y17, y18, y19, y20⟩
    · refine ⟨M1, ?_, Or.inl ⟨f, p, fo, fm⟩⟩
      have st1 : un3 (Model_tell_l291 x1 x2) (M, (1 : Int32), b2i o) = some (.inl (M1, (0 : Int32), (0 : Int32))) := by
        show Model_tell_l291 x1 x2 M 1 (b2i o) = _
        unfold Model_tell_l291 Model_tell_j335_l291
        rw [if_neg (by decide), if_pos e13, g1, mb_bd, f_is fm, mb_bd, if_pos rfl, f_is fm, mb_bd, if_pos rfl, if_pos rfl]
      rw [wh_inl st1]
      refine wh_inr ?_
      show Model_tell_l291 x1 x2 M1 0 0 = _
      unfold Model_tell_l291
      rw [if_pos rfl]
    obtain ⟨l, el⟩ : ∃ l, l = litB x ng fS gS := ⟨_, rfl⟩
    rw [← el] at y6
    obtain ⟨bo', bv', r2, hLS2, r1⟩ := lit_rel hLS l
    have R2 : rel 2 (eo ++ x :: ngL ng bo) (ev ++ fS :: bv) = (bo', bv') := by rw [lit_out (by decide) (by decide) y7 y8 ng fS gS y9 y16 y11, ← el]; exact r2
    have R1 : rel 1 (eo ++ x :: ngL ng bo) (ev ++ fS :: bv) = ([], [acO (ls ++ [(o, l)])]) := by rw [lit_out (by decide) (by decide) y7 y8 ng fS gS y9 y16 y11, ← el]; exact r1
    have hk1 := y3.1.2.2.2.1
    have h27 := (tK_lt (v := v) (n := n) k1).1
    have hx2 : isB2 x = true := by
      have : x = 8 ∨ x = 9 ∨ x = 10 ∨ x = 11 := by omega
      rcases this with rfl | rfl | rfl | rfl <;> rfl
    obtain ⟨-, bk2, bk3, -⟩ := bo2_ok hbo ng
    have hvl : (ev ++ fS :: bv).length = nbW (eo ++ x :: ngL ng bo) + 1 := by
      rw [List.length_append, nbW_app]
      show ev.length + (bv.length + 1) = nbW eo + (nbW (ngL ng bo) + cond (isB2 x) 1 0) + 1
      rw [hx2, bk2, hbv, y16]
      show _ = nbW eo + (nbW bo + 1) + 1
      omega
    have hwl : (eo ++ x :: ngL ng bo).length < 40 := by
      have := eo_len y9 (by omega)
      rw [List.length_append]
      show eo.length + ((ngL ng bo).length + 1) < 40
      omega
    have hlen : (ls ++ [(o, l)]).length = ls.length + 1 := by rw [List.length_append]; rfl
    have hL1 : mf1 = 0 → mf = 0 ∧ ∀ i o' l', (ls ++ [(o, l)])[i]? = some (o', l') → LIT M1 (1 - lv) ec1 (lc0 + i) o' l' := by
      intro z
      obtain ⟨z1, z2⟩ := y6 z
      refine ⟨z1, fun i o' l' hi => ?_⟩
      rcases ix_snoc hi with ⟨c1, c2⟩ | ⟨c1, c2⟩
      · exact (hL z1 i o' l' c2).lf y4 (by omega) y12
      · cases c2
        rw [c1]
        exact z2
    have is23 : f_Model_is M1 29 = some (b2i (Nat.beq (tK v n k1) 23)) := r_is y3.1 h0 (x := 23) (by decide)
    have is24 : f_Model_is M1 30 = some (b2i (Nat.beq (tK v n k1) 24)) := r_is y3.1 h0 (x := 24) (by decide)
    -- what a joining word does
    have join : ∀ (w : Nat) (o' : Bool) (bo2' : List Nat) (bv2' : List Sem), (w = 23 ∨ w = 24) → tK v n k1 = w → rel (tg w) (eo ++ x :: ngL ng bo) (ev ++ fS :: bv) = (bo2', bv2') → LWS (ls ++ [(o, l)]) o' (w :: bo2') bv2' → (∀ M2, f_Model_next M1 = some M2 → un3 (Model_tell_l291 x1 x2) (M, (1 : Int32), b2i o) = some (.inl (M2, (1 : Int32), b2i o'))) → ∃ M', wh (un3 (Model_tell_l291 x1 x2)) (M, (1 : Int32), b2i o) = some M' ∧ (FF S0 lv M0 M' ∨ ∃ k' ls' wl vl mf' mp' cz' ec' S', k < k' ∧ ¬ ls' = [] ∧ CP v n S0 k' 11 2 so 0 sl lo wl vl T ex nN pd mf' mp' cz' tl wq S' ∧ RB v n lv M0 k' T nN pd mf' mp' ec' (lc0 + ls'.length) M' ∧ LF (1 - lv) ec (lc0 + ls.length) M M' ∧ gI M' 0 41 = gI M 0 41 ∧ (mf' = 0 → mf = 0 ∧ ∀ i o l, ls'[i]? = some (o, l) → LIT M' (1 - lv) ec' (lc0 + i) o l) ∧ rel 1 wl vl = ([], [acO ls']) ∧ vl.length = nbW wl + 1 ∧ ec ≤ ec' ∧ ec' ≤ k' ∧ 3 * (lc0 + ls'.length) ≤ k' ∧ cz' + wl.length ≤ k' ∧ DOK T nN mf' mp' ∧ ¬ tK v n k' = 5 ∧ ¬ tK v n k' = 6 ∧ ¬ tK v n k' = 7 ∧ ¬ tK v n k' = 23 ∧ ¬ tK v n k' = 24) := by
      intro w o' bo2' bv2' hw hK hr hLS' hst
      have hO := cs_andor y2 hk1 y17 hw hK hvl hwl
      rw [hr] at hO
      rcases r_next y3.1 h0 (by rw [hK]; omega) with ⟨e, M2, g2, f2⟩ | ⟨e, g2, q2⟩
      · have fo : FOc S0 2 (tP v n k1) := by
          rcases hO with ⟨-, z⟩ | ⟨z, -⟩
          · exact z
          · omega
        refine ⟨M2, ?_, Or.inl ⟨2, _, Or.inl fo, f2⟩⟩
        rw [wh_inl (hst M2 g2)]
        refine wh_inr ?_
        show Model_tell_l291 x1 x2 M2 1 (b2i o') = _
        unfold Model_tell_l291
        rw [if_neg (by decide), if_neg f2.nz.1]
      · rcases hO with ⟨z, -⟩ | ⟨-, S2, hS2⟩
        · omega
        obtain ⟨hR2, lf2⟩ := y3.nx q2
        have hpw := (rel_pW (t := tg w) (by rcases hw with rfl | rfl <;> decide) (eo ++ x :: ngL ng bo) (ev ++ fS :: bv))
        rw [hr] at hpw
        have hw12 : Nat.beq w 12 = false := by rcases hw with rfl | rfl <;> rfl
        have hp2 : cz1 + ((eo ++ x :: ngL ng bo).length - bo2'.length) + pW (w :: bo2') ≤ k1 + 1 := by
          show cz1 + ((eo ++ x :: ngL ng bo).length - bo2'.length) + (pW bo2' + cond (Nat.beq w 12) 0 1) ≤ k1 + 1
          rw [hw12]
          show cz1 + ((eo ++ x :: ngL ng bo).length - bo2'.length) + (pW bo2' + 1) ≤ k1 + 1
          have hpw1 : pW bo2' + ((eo ++ x :: ngL ng bo).length - bo2'.length) = pW (eo ++ x :: ngL ng bo) := hpw.1
          omega
        have hR2' : RB v n lv M0 (k1 + 1) T nN pd mf1 mp1 ec1 (lc0 + (ls ++ [(o, l)]).length) (pI M1 0 11 (nI (k1 + 1))) := by rw [hlen]; exact hR2
        obtain ⟨M', g3, o3⟩ := j_cond h0 hso x1 x2 lc0 d (by omega) hLS' hS2 hR2' (by rw [lf2.1.1 41 (by decide), y5]; exact h41) (by omega) (by rw [hlen]; omega) hp2 y17 (fun z i o'' l'' hi => ((hL1 z).2 i o'' l'' hi).lf lf2 (by have := (List.getElem?_eq_some_iff.mp hi).1; rw [hlen] at this; omega) (Nat.le_refl _))
        refine ⟨M', by rw [wh_inl (hst _ g2)]; exact g3, ?_⟩
        rcases o3 with z | ⟨k', ls', wl, vl, mf', mp', cz', ec', S', z1, z2, z3, z4, z5, z6, z7, z8, z9, z10, z11⟩
        · exact Or.inl z
        · refine Or.inr ⟨k', ls', wl, vl, mf', mp', cz', ec', S', by omega, z2, z3, z4, ?_, ?_, fun z => ⟨(hL1 (z7 z).1).1, (z7 z).2⟩, z8, z9, by omega, z11⟩
          · rw [hlen] at z5
            exact ((y4.tr lf2 y12 (Nat.le_succ _)).tr z5 y12 (Nat.le_succ _))
          · rw [z6, lf2.1.1 41 (by decide), y5]
    by_cases c3 : tK v n k1 = 23
    · refine join 23 true [] [acO (ls ++ [(o, l)])] (Or.inl rfl) c3 R1 (Or.inr (Or.inl ⟨rfl, rfl, rfl⟩)) (fun M2 g2 => ?_)
      show Model_tell_l291 x1 x2 M 1 (b2i o) = _
      unfold Model_tell_l291 Model_tell_j330_l291 Model_tell_j335_l291
      rw [if_neg (by decide), if_pos e13, g1, mb_bd, is23, mb_bd, c3, Nat.beq_refl, if_neg (by decide), if_neg (by decide), g2, mb_bd]
    by_cases c4 : tK v n k1 = 24
    · refine join 24 false bo' bv' (Or.inr rfl) c4 R2 hLS2 (fun M2 g2 => ?_)
      show Model_tell_l291 x1 x2 M 1 (b2i o) = _
      unfold Model_tell_l291 Model_tell_j330_l291 Model_tell_j335_l291
      rw [if_neg (by decide), if_pos e13, g1, mb_bd, is23, mb_bd, beq_f c3, if_pos (by rfl), is24, mb_bd, c4, Nat.beq_refl, if_neg (by decide), if_neg (by decide), g2, mb_bd]
    · refine ⟨M1, ?_, Or.inr ⟨k1, ls ++ [(o, l)], eo ++ x :: ngL ng bo, ev ++ fS :: bv, mf1, mp1, cz1, ec1, S1, y1, fun z => by have := congrArg List.length z; rw [hlen] at this; exact absurd this (Nat.succ_ne_zero _), y2, by rw [hlen]; exact y3, y4, y5, hL1, R1, hvl, y12, y13, by rw [hlen]; exact y14, ?_, y17, y18, y19, y20, c3, c4⟩⟩
      · have st1 : un3 (Model_tell_l291 x1 x2) (M, (1 : Int32), b2i o) = some (.inl (M1, (0 : Int32), (0 : Int32))) := by
          show Model_tell_l291 x1 x2 M 1 (b2i o) = _
          unfold Model_tell_l291 Model_tell_j335_l291
          rw [if_neg (by decide), if_pos e13, g1, mb_bd, is23, mb_bd, beq_f c3, if_pos (by rfl), is24, mb_bd, beq_f c4, if_pos (by rfl), if_pos rfl]
          rfl
        rw [wh_inl st1]
        refine wh_inr ?_
        show Model_tell_l291 x1 x2 M1 0 0 = _
        unfold Model_tell_l291
        rw [if_pos rfl]
      · have hpw := (rel_pW (t := 1) (by decide) (eo ++ x :: ngL ng bo) (ev ++ fS :: bv)).1
        rw [R1] at hpw
        have hpw : 0 + ((eo ++ x :: ngL ng bo).length - 0) = pW (eo ++ x :: ngL ng bo) := hpw
        omega
