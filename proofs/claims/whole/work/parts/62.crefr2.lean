/-! the class: markLaws, gather -/
theorem cN_snoc (p : Nat → Bool) (l : List Nat) (x : Nat) : cN p (l ++ [x]) = cN p l + cond (p x) 1 0 := by
  unfold cN
  rw [List.filter_append, List.length_append]
  congr 1
  cases hp : p x with
  | true => rw [List.filter_cons_of_pos hp]; rfl
  | false => rw [List.filter_cons_of_neg (by rw [hp]; decide)]; rfl
theorem c_standing {T : Tx} {S : St} (hw : wfT T) (hk : CB T S) (hN : tIn T ≤ gN S 4 5) (hN2 : gN S 4 5 ≤ 32768) (b : Bool) (hm : ∀ i, i < tIn T → gA S 4 5 i = nI (mkN T b i)) : ∃ S', f_Chart_countStanding S = some S' ∧ agC [] [(4, 2)] [] S S' ∧ ∀ set, set < 256 → gA S' 4 2 set = nI (stN T set) := by
  have n1 := hw.2.2.1
  unfold f_Chart_countStanding
  obtain ⟨S0, h0, a0, v0⟩ := c_fill (o := 4) (k := 2) (n := 256) (S := S) 0 (fun _ _ => rfl) (by decide)
  rw [h0, mb_bd, mb_nm, a0.2.2.2, a0.1 5 11 (by decide), hk.2.1]
  have emin : (if nI (gN S 4 5) < nI (tIn T) then nI (gN S 4 5) else nI (tIn T)) = nI (tIn T) := by
    rw [if_neg (by rw [mb_lt (by omega) (by omega)]; omega)]
  rw [emin]
  have key := wh_ix (f := un2 (Chart_countStanding_l26 (nI (tIn T)))) (s := (S0, (0 : Int32))) (tIn T) (fun i q => q.2 = nI i ∧ agC [] [(4, 2)] [] S q.1 ∧ ∀ set, set < 256 → gA q.1 4 2 set = nI (cN (fun x => Nat.beq (bN T 0 x) set) (List.range i))) (fun S' => agC [] [(4, 2)] [] S S' ∧ ∀ set, set < 256 → gA S' 4 2 set = nI (cN (fun x => Nat.beq (bN T 0 x) set) (List.range (tIn T)))) ⟨rfl, a0, fun set hs => v0 set hs⟩ ?_ ?_
  · obtain ⟨S1, h1, a1, v1⟩ := key
    rw [h1, mb_bd, show f_Book_toldOf 5 S1 0 = _ from c_toldOf (hk.ag a1 (by decide) (by decide)) (s := 0) (by decide), mb_bd]
    obtain ⟨S2, h2, a2, v2⟩ := c_supers (o := 4) (k := 2) (S := S1) (fun _ _ => rfl) (hw.2.2.2.1 0 (by decide)) (fun x => bN_ltp T 0 x) v1
    rw [h2, mb_bd]
    exact ⟨S2, rfl, a1.tr a2, v2⟩
  · intro i q hi hI
    obtain ⟨S1, x⟩ := q
    obtain ⟨e1, a1, v1⟩ := hI
    dsimp only at e1 a1 v1
    subst e1
    have b0 := bN_lt hw (show 0 < 5 by decide) i
    left
    refine ⟨(pA S1 4 2 (bN T 0 i) (nI (cN (fun x => Nat.beq (bN T 0 x) (bN T 0 i)) (List.range (i + 1)))), nI (i + 1)), ?_, rfl, a1.tr (agC.pA S1 4 2 _ _ (by decide)), ?_⟩
    · show Chart_countStanding_l26 (nI (tIn T)) S1 (nI i) = _
      unfold Chart_countStanding_l26
      rw [if_neg (by rw [mb_le (by omega) (by omega)]; omega), a1.2.2.2, mb_in (by omega) (by omega), mb_gd, mb_cl (by omega), a1.2.1 4 5 (by decide), hm i hi, mk_0 hw, mb_in b0 (by decide), mb_gd, mb_gd, mb_nm, mb_nm, mb_cl (by omega), v1 _ b0, nI_1, nI_1, List.range_succ, cN_snoc, Nat.beq_refl]
      rfl
    · intro set hs
      show gA (pA S1 4 2 _ _) 4 2 set = _
      rw [mb_AA]
      by_cases e : set = bN T 0 i
      · rw [if_pos ⟨rfl, rfl, e⟩, e]
      · rw [if_neg (fun z => e z.2.2), v1 set hs, List.range_succ, cN_snoc]
        have : Nat.beq (bN T 0 i) set = false := by
          cases hb : Nat.beq (bN T 0 i) set with
          | false => rfl
          | true => exact absurd (Nat.eq_of_beq_eq_true hb).symm e
        rw [this]
        rfl
  · intro q hI
    obtain ⟨S1, x⟩ := q
    obtain ⟨e1, a1, v1⟩ := hI
    dsimp only at e1 a1 v1
    subst e1
    refine ⟨S1, ?_, a1, v1⟩
    show Chart_countStanding_l26 (nI (tIn T)) S1 (nI (tIn T)) = _
    unfold Chart_countStanding_l26
    rw [if_pos (by rw [mb_le (by omega) (by omega)]; omega)]
def mlA : List (Nat × Nat) := [(4, 1), (4, 2), (4, 5), (4, 7), (6, 0)]
/-- behind markLaws -/
def MLp (T : Tx) (S S' : St) : Prop := agD [(4, 13)] mlA [] S S' ∧ CN S' ∧ gN S' 4 6 = gN S 4 6 ∧ ¬ gI S' 4 13 = 0 ∧ CM T S'
theorem okn_of {n : Nat} (h : n ≤ 32768) : okn (nI n) = true := by
  unfold okn
  refine decide_eq_true ⟨nI_pos (by omega), ?_⟩
  rw [mb_cl (by omega)]
  omega
theorem c_markLaws {T : Tx} {S : St} (hw : wfT T) (hk : CK T S) (hn : CN S) (hm : CM T S) : ∃ S', f_Chart_markLaws S = some S' ∧ MLp T S S' ∧ 3 * gN S 4 5 + kMark S ≤ 3 * gN S' 4 5 := by
  have n1 := hw.2.2.1
  unfold f_Chart_markLaws kMark
  by_cases c : gI S 4 13 = 0
  · rw [if_pos c, if_pos c, hk.1.2.1, c_room n1, mb_bd]
    have hge := rm_ge n1
    have hrl := rm_ln (tIn T)
    have h14 : gI S 4 14 = 0 := by
      by_cases z : gI S 4 14 = 0
      · exact z
      · exact absurd c (hm.2 z)
    -- what is done over rows of room enough
    have tail : ∀ S1, agD [] [(4, 5), (4, 7)] [] S S1 → CN S1 → gN S1 4 6 = gN S 4 6 → tIn T ≤ gN S1 4 5 → ∃ S', Chart_markLaws_j42 S1 = some S' ∧ MLp T S S' ∧ gN S' = gN S1 := by
      intro S1 a1 hn1 e6 hge1
      have hN2 : gN S1 4 5 ≤ 32768 := by
        have := hn1.1
        unfold lnS at this
        omega
      have hk1 : CK T S1 := hk.agD a1 (by decide) (by decide)
      unfold Chart_markLaws_j42
      obtain ⟨S2, h2, a2, v2⟩ := c_fill (o := 4) (k := 5) (n := gN S1 4 5) (S := S1) 0 (fun S' e => by show gN S' 4 5 = _; rw [e]) hN2
      rw [h2, mb_bd]
      have hk2 : CK T S2 := hk1.ag a2 (by decide) (by decide)
      obtain ⟨S3, h3, a3, v3⟩ := c_mark (s := 0) hw hk2 (by decide) (by rw [a2.2.2.2]; exact hge1) (by rw [a2.2.2.2]; exact hN2) (fun _ => 0) (fun i hi => v2 i (by omega))
      rw [show (0 : Int32) = nI 0 from rfl, h3, mb_bd]
      have hk3 : CK T S3 := hk2.ag a3 (by decide) (by decide)
      obtain ⟨S4, h4, a4, v4⟩ := c_mark (s := 1) hw hk3 (by decide) (by rw [a3.2.2.2, a2.2.2.2]; exact hge1) (by rw [a3.2.2.2, a2.2.2.2]; exact hN2) _ v3
      rw [show (1 : Int32) = nI 1 from rfl, h4, mb_bd]
      have hk4 : CK T S4 := hk3.ag a4 (by decide) (by decide)
      have eN : gN S4 = gN S1 := by rw [a4.2.2.2, a3.2.2.2, a2.2.2.2]
      have v4' : ∀ i, i < tIn T → gA S4 4 5 i = nI (mkN T false i) := by
        intro i hi
        rw [v4 i hi]
        congr 1
        unfold mkN
        show (0 ||| bN T 0 i <<< (8 * 0)) ||| bN T 1 i <<< (8 * 1) = _
        rw [Nat.zero_or, Nat.mul_zero, Nat.shiftLeft_zero, Nat.mul_one]
        show _ = _ ||| 0
        rw [Nat.or_zero]
      obtain ⟨S5, h5, a5, v5⟩ := c_standing hw hk4.1 (by rw [eN]; exact hge1) (by rw [eN]; exact hN2) false v4'
      rw [h5, mb_bd, mb_nm]
      have a25 : agC [] mlA [] S1 S5 := (((a2.wk (by decide) (by decide) (by decide)).tr (a3.wk (by decide) (by decide) (by decide))).tr (a4.wk (by decide) (by decide) (by decide))).tr (a5.wk (by decide) (by decide) (by decide))
      have aI : agC [(4, 13)] [] [] S5 (pI S5 4 13 (nI 1)) := agC.pI S5 4 13 _ (by decide)
      have aD : agD [(4, 13)] mlA [] S (pI S5 4 13 (nI 1)) := ((a1.wk (by decide) (by decide) (by decide)).tr (a25.D.wk (by decide) (by decide) (by decide))).tr (aI.D.wk (by decide) (by decide) (by decide))
      have e13 : gI (pI S5 4 13 (nI 1)) 4 13 = nI 1 := by rw [mb_II, if_pos ⟨rfl, rfl⟩]
      have e14 : gI (pI S5 4 13 (nI 1)) 4 14 = 0 := by rw [aD.1 4 14 (by decide)]; exact h14
      have eN5 : gN (pI S5 4 13 (nI 1)) = gN S1 := by rw [aI.2.2.2, a25.2.2.2]
      refine ⟨_, rfl, ⟨aD, ?_, ?_, ?_, ?_, ?_⟩, eN5⟩
      · unfold CN; rw [eN5]; exact hn1
      · rw [eN5]; exact e6
      · rw [e13]; decide
      · intro _
        rw [e14, eN5]
        refine ⟨hge1, ?_, ?_⟩
        · intro i hi
          rw [aI.2.1 4 5 (by decide), a5.2.1 4 5 (by decide)]
          exact v4' i hi
        · intro set hs
          rw [aI.2.1 4 2 (by decide)]
          exact v5 set hs
      · intro z
        exact absurd e14 z
    by_cases d : nI (rmN (tIn T)) ≤ nI (gN S 4 5)
    · have d' := d
      have hl := hn.1
      unfold lnS at hl
      rw [mb_le (by omega) (by omega)] at d'
      rw [if_pos d]
      obtain ⟨S', h1, h2, h3⟩ := tail S (agD.rf S) hn rfl (by omega)
      refine ⟨S', h1, h2, ?_⟩
      show 3 * gN S 4 5 + (if nI (rmN (tIn T)) ≤ nI (gN S 4 5) then 0 else _) ≤ _
      rw [if_pos d, h3]
      omega
    · have d' := d
      have hl := hn.1
      have hl7 := hn.2.1
      have hl6 := hn.2.2.1
      have hl66 := hn.2.2.2
      unfold lnS at hl hl6
      rw [mb_le (by omega) (by omega)] at d'
      rw [if_neg d, okn_of (by omega), mb_gd, mb_nm, mb_gd, mb_nm, mb_cl (by omega)]
      have b1 : gN (pZ (pZ S 4 5 (rmN (tIn T))) 4 7 (rmN (tIn T))) 4 5 = rmN (tIn T) := by
        rw [mb_NZ, if_neg (by decide), mb_NZ, if_pos ⟨rfl, rfl⟩]
      have b2 : gN (pZ (pZ S 4 5 (rmN (tIn T))) 4 7 (rmN (tIn T))) 4 7 = rmN (tIn T) := by
        rw [mb_NZ, if_pos ⟨rfl, rfl⟩]
      have b3 : gN (pZ (pZ S 4 5 (rmN (tIn T))) 4 7 (rmN (tIn T))) 4 6 = gN S 4 6 := by
        rw [mb_NZ, if_neg (by decide), mb_NZ, if_neg (by decide)]
      obtain ⟨S', h1, h2, h3⟩ := tail (pZ (pZ S 4 5 (rmN (tIn T))) 4 7 (rmN (tIn T))) ((agD.pZ S 4 5 _ (by decide)).tr (agD.pZ _ 4 7 _ (by decide))) (by
        unfold CN
        rw [b1, b2, b3]
        refine ⟨?_, rfl, hn.2.2.1, by omega⟩
        unfold lnS
        omega) b3 (by rw [b1]; exact hge)
      refine ⟨S', h1, h2, ?_⟩
      show 3 * gN S 4 5 + (if nI (rmN (tIn T)) ≤ nI (gN S 4 5) then 0 else (nI (rmN (tIn T))).toNatClampNeg + (nI (rmN (tIn T))).toNatClampNeg) ≤ _
      rw [if_neg d, h3, b1, mb_cl (by omega)]
      omega
  · rw [if_neg c, if_neg c]
    exact ⟨S, rfl, ⟨agD.rf S, hn, rfl, c, hm⟩, by omega⟩
theorem has_0 (a : Nat) : has a 0 = true := by
  unfold has
  rw [Nat.and_zero]
  rfl
theorem isL_0 (T : Tx) (laws i : Nat) : isL T laws 0 i = has (bN T 0 i) laws := by
  unfold isL
  rw [has_0, Bool.and_true]
/-- which sets of soft ones hold of one that is lawful by laws -/
def SS (T : Tx) (on i : Nat) (S : St) : Prop := ∀ set, set < 256 → (¬ gA S 4 3 set = 0 ↔ ∃ j, j < i ∧ has (bN T 0 j) on = true ∧ bN T 1 j = set)
theorem c_gather {T : Tx} {on : Nat} {S : St} (hw : wfT T) (hk : CB T S) (hn : CN S) (h13 : ¬ gI S 4 13 = 0) (hm : CM T S) (ho : gI S 4 12 = nI on) (ho2 : on < 256) : ∃ S', f_Chart_gather S = some S' ∧ agC [(4, 9)] [(4, 3), (4, 7)] [] S S' ∧ gI S' 4 9 = nI (lwTo T on 0 (tIn T)).length ∧ (∀ k x, (lwTo T on 0 (tIn T))[k]? = some x → gA S' 4 7 k = nI x) ∧ SS T on (tIn T) S' := by
  have n1 := hw.2.2.1
  obtain ⟨hN, hmk, -⟩ := hm.1 h13
  have hN2 : gN S 4 5 ≤ 32768 := by
    have := hn.1
    unfold lnS at this
    omega
  have hN7 := hn.2.1
  unfold f_Chart_gather
  rw [mb_nm, mb_nm, hk.2.1, hN7]
  have emin : (if (if nI (gN S 4 5) < nI (gN S 4 5) then nI (gN S 4 5) else nI (gN S 4 5)) < nI (tIn T) then (if nI (gN S 4 5) < nI (gN S 4 5) then nI (gN S 4 5) else nI (gN S 4 5)) else nI (tIn T)) = nI (tIn T) := by
    rw [ite_self, if_neg (by rw [mb_lt (by omega) (by omega)]; omega)]
  rw [emin]
  have aI : agC [(4, 9)] [(4, 3), (4, 7)] [] S (pI S 4 9 0) := agC.pI S 4 9 _ (by decide)
  obtain ⟨S0, h0, a0, v0⟩ := c_fill (o := 4) (k := 3) (n := 256) (S := pI S 4 9 0) 0 (fun _ _ => rfl) (by decide)
  rw [h0, mb_bd]
  have key := wh_ix (f := un2 (Chart_gather_l39 (nI (tIn T)))) (s := (S0, (0 : Int32))) (tIn T) (fun i q => q.2 = nI i ∧ agC [(4, 9)] [(4, 3), (4, 7)] [] S q.1 ∧ gI q.1 4 9 = nI (lwTo T on 0 i).length ∧ (∀ k x, (lwTo T on 0 i)[k]? = some x → gA q.1 4 7 k = nI x) ∧ SS T on i q.1) (fun S' => agC [(4, 9)] [(4, 3), (4, 7)] [] S S' ∧ gI S' 4 9 = nI (lwTo T on 0 (tIn T)).length ∧ (∀ k x, (lwTo T on 0 (tIn T))[k]? = some x → gA S' 4 7 k = nI x) ∧ SS T on (tIn T) S') ⟨rfl, aI.tr (a0.wk (by decide) (by decide) (by decide)), ?_, fun k x hx => ?_, fun set hs => ?_⟩ ?_ ?_
  · obtain ⟨S1, h1, h2⟩ := key
    rw [h1, mb_bd]
    exact ⟨S1, rfl, h2⟩
  · show gI S0 4 9 = nI 0
    rw [a0.1 4 9 (by decide), mb_II, if_pos ⟨rfl, rfl⟩]
    rfl
  · cases hx
  · show ¬ gA S0 4 3 set = 0 ↔ _
    rw [v0 set hs]
    exact ⟨fun z => absurd rfl z, fun ⟨j, hj, _⟩ => absurd hj (Nat.not_lt_zero j)⟩
  · intro i q hi hI
    obtain ⟨S1, x⟩ := q
    obtain ⟨e1, a1, s1, o1, t1⟩ := hI
    dsimp only at e1 a1 s1 o1 t1
    subst e1
    have hlen := lw_len T on 0 i
    have b1 := bN_lt hw (show 1 < 5 by decide) i
    have hmi : gA S1 4 5 i = nI (mkN T (!decide (gI S 4 14 = 0)) i) := by rw [a1.2.1 4 5 (by decide)]; exact hmk i hi
    have h12 : gI S1 4 12 = nI on := by rw [a1.1 4 12 (by decide)]; exact ho
    left
    by_cases c : has (bN T 0 i) on = true
    · have hstep : lwTo T on 0 (i + 1) = lwTo T on 0 i ++ [i] := by
        show cond (isL T on 0 i) _ _ = _
        rw [isL_0, c]
        rfl
      obtain ⟨S2, e2⟩ : ∃ S2, S2 = pI (pA S1 4 7 (lwTo T on 0 i).length (nI i)) 4 9 (nI ((lwTo T on 0 i).length + 1)) := ⟨_, rfl⟩
      have a2 : agC [(4, 9)] [(4, 3), (4, 7)] [] S1 S2 := by
        rw [e2]
        exact (agC.pA S1 4 7 _ _ (by decide)).tr (agC.pI _ 4 9 _ (by decide))
      have hm2 : gA S2 4 5 i = nI (mkN T (!decide (gI S 4 14 = 0)) i) := by rw [a2.2.1 4 5 (by decide)]; exact hmi
      refine ⟨(pA S2 4 3 (bN T 1 i) 1, nI (i + 1)), ?_, rfl, (a1.tr a2).tr (agC.pA S2 4 3 _ _ (by decide)), ?_, ?_, ?_⟩
      · show Chart_gather_l39 (nI (tIn T)) S1 (nI i) = _
        unfold Chart_gather_l39 Chart_gather_j101_l39
        rw [if_neg (by rw [mb_le (by omega) (by omega)]; omega), a1.2.2.2, mb_in (by omega) (by omega), mb_gd, mb_cl (by omega), hmi, h12, if_pos (by rw [mk_on hw _ _ ho2]; exact c), s1, hN7, mb_in (by omega) (by omega), mb_gd, mb_nm, mb_nm, mb_cl (by omega), mb_IA, s1, nI_1, ← e2, a2.2.2.2, a1.2.2.2, mb_in (by omega) (by omega), mb_gd, hm2, mk_1 hw, mb_in b1 (by decide), mb_gd, mb_nm, mb_nm, mb_cl (by omega), nI_1]
      · show gI (pA S2 4 3 _ _) 4 9 = _
        rw [mb_IA, e2, mb_II, if_pos ⟨rfl, rfl⟩, hstep, List.length_append]
        rfl
      · intro k x hx
        show gA (pA S2 4 3 _ _) 4 7 k = _
        rw [mb_AA, if_neg (fun z => by omega), e2, mb_AI, mb_AA]
        rw [hstep] at hx
        by_cases e : k = (lwTo T on 0 i).length
        · rw [if_pos ⟨rfl, rfl, e⟩]
          rw [e, List.getElem?_append_right (Nat.le_refl _), Nat.sub_self] at hx
          rw [Option.some.inj hx]
        · rw [if_neg (fun z => e z.2.2)]
          have hlt : k < (lwTo T on 0 i ++ [i]).length := by
            rcases Nat.lt_or_ge k (lwTo T on 0 i ++ [i]).length with z | z
            · exact z
            · rw [List.getElem?_eq_none z] at hx
              cases hx
          rw [List.length_append] at hlt
          have hlt : k < (lwTo T on 0 i).length + 1 := hlt
          rw [List.getElem?_append_left (by omega)] at hx
          exact o1 k x hx
      · intro set hs
        show ¬ gA (pA S2 4 3 _ _) 4 3 set = 0 ↔ _
        rw [mb_AA]
        by_cases e : set = bN T 1 i
        · rw [if_pos ⟨rfl, rfl, e⟩]
          exact ⟨fun _ => ⟨i, by omega, c, e.symm⟩, fun _ => by decide⟩
        · rw [if_neg (fun z => e z.2.2), e2, mb_AI, mb_AA, if_neg (fun z => by omega), t1 set hs]
          constructor
          · rintro ⟨j, hj, r⟩
            exact ⟨j, by omega, r⟩
          · rintro ⟨j, hj, r1, r2⟩
            refine ⟨j, ?_, r1, r2⟩
            rcases Nat.lt_or_ge j i with z | z
            · exact z
            · have : j = i := by omega
              subst this
              exact absurd r2.symm e
    · have hstep : lwTo T on 0 (i + 1) = lwTo T on 0 i := by
        show cond (isL T on 0 i) _ _ = _
        rw [isL_0, Bool.eq_false_iff.mpr c]
        rfl
      refine ⟨(S1, nI (i + 1)), ?_, rfl, a1, ?_, ?_, ?_⟩
      · show Chart_gather_l39 (nI (tIn T)) S1 (nI i) = _
        unfold Chart_gather_l39 Chart_gather_j101_l39
        rw [if_neg (by rw [mb_le (by omega) (by omega)]; omega), a1.2.2.2, mb_in (by omega) (by omega), mb_gd, mb_cl (by omega), hmi, h12, if_neg (by rw [mk_on hw _ _ ho2]; exact c), mb_nm, nI_1]
      · show gI S1 4 9 = _
        rw [hstep]
        exact s1
      · rw [hstep]
        exact o1
      · intro set hs
        show ¬ gA S1 4 3 set = 0 ↔ _
        rw [t1 set hs]
        constructor
        · rintro ⟨j, hj, r⟩
          exact ⟨j, by omega, r⟩
        · rintro ⟨j, hj, r1, r2⟩
          refine ⟨j, ?_, r1, r2⟩
          rcases Nat.lt_or_ge j i with z | z
          · exact z
          · have : j = i := by omega
            subst this
            exact absurd r1 c
  · intro q hI
    obtain ⟨S1, x⟩ := q
    obtain ⟨e1, a1, r1⟩ := hI
    dsimp only at e1 a1 r1
    subst e1
    refine ⟨S1, ?_, a1, r1⟩
    show Chart_gather_l39 (nI (tIn T)) S1 (nI (tIn T)) = _
    unfold Chart_gather_l39
    rw [if_pos (by rw [mb_le (by omega) (by omega)]; omega)]
