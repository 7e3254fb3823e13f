/-! the class: keepSoft, narrow, refresh -/
theorem anyTo_iff {T : Tx} {laws softs : Nat} : ∀ n, anyTo T laws softs n = true ↔ ∃ i, i < n ∧ isL T laws softs i = true
  | 0 => ⟨fun h => (by cases h), fun ⟨i, hi, _⟩ => absurd hi (Nat.not_lt_zero i)⟩
  | n + 1 => by
    have ih := anyTo_iff (T := T) (laws := laws) (softs := softs) n
    show (anyTo T laws softs n || isL T laws softs n) = true ↔ _
    rw [Bool.or_eq_true, ih]
    constructor
    · rintro (⟨i, hi, h⟩ | h)
      · exact ⟨i, by omega, h⟩
      · exact ⟨n, by omega, h⟩
    · rintro ⟨i, hi, h⟩
      rcases Nat.lt_or_ge i n with z | z
      · exact Or.inl ⟨i, z, h⟩
      · have : i = n := by omega
        subst this
        exact Or.inr h
theorem any_iff {T : Tx} {laws softs : Nat} : anyS T laws softs = true ↔ ∃ i, i < tIn T ∧ has (bN T 0 i) laws = true ∧ has (bN T 1 i) softs = true := by
  unfold anyS
  rw [anyTo_iff]
  unfold isL
  constructor
  · rintro ⟨i, hi, h⟩
    rw [Bool.and_eq_true] at h
    exact ⟨i, hi, h⟩
  · rintro ⟨i, hi, h⟩
    exact ⟨i, hi, by rw [Bool.and_eq_true]; exact h⟩
theorem b2i_t {b : Bool} (h : b = true) : b2i b = 1 := by rw [h]; rfl
theorem b2i_f {b : Bool} (h : ¬ b = true) : b2i b = 0 := by rw [Bool.eq_false_iff.mpr h]; rfl
theorem c_canKeep {T : Tx} {on : Nat} {S : St} (hw : wfT T) (hs : SS T on (tIn T) S) {w : Nat} (hwl : w < 256) : f_Chart_canKeep S (nI w) = some (b2i (anyS T on w)) := by
  unfold f_Chart_canKeep
  have key := wh_ix (f := Chart_canKeep_l2 S (nI w)) (s := (0 : Int32)) 256 (fun i x => x = nI i ∧ ∀ j, j < i → ¬ (has j w = true ∧ ¬ gA S 4 3 j = 0)) (fun r => r = b2i (anyS T on w)) ⟨rfl, fun j hj => absurd hj (Nat.not_lt_zero j)⟩ ?_ ?_
  · obtain ⟨r, h1, h2⟩ := key
    rw [h1, h2]
  · intro i x hi hI
    obtain ⟨rfl, hn⟩ := hI
    unfold Chart_canKeep_l2 Chart_canKeep_j27_l2
    rw [l256, if_neg (by rw [mb_le (by omega) (by omega)]; omega), mb_nm, nI_1]
    by_cases c : has i w = true
    · rw [if_pos (by rw [has_I hi hwl]; exact c), mb_in hi (by decide), mb_gd, mb_cl (by omega)]
      by_cases d : gA S 4 3 i = 0
      · rw [if_pos d]
        left
        refine ⟨_, rfl, rfl, fun j hj => ?_⟩
        by_cases e : j = i
        · subst e
          exact fun z => z.2 d
        · exact hn j (by omega)
      · rw [if_neg d]
        right
        refine ⟨1, rfl, (b2i_t ?_).symm⟩
        obtain ⟨j, hj, h1, h2⟩ := (hs i hi).mp d
        exact any_iff.mpr ⟨j, hj, h1, by rw [h2]; exact c⟩
    · rw [if_neg (by rw [has_I hi hwl]; exact c)]
      left
      refine ⟨_, rfl, rfl, fun j hj => ?_⟩
      by_cases e : j = i
      · subst e
        exact fun z => c z.1
      · exact hn j (by omega)
  · intro x hI
    obtain ⟨rfl, hn⟩ := hI
    refine ⟨0, ?_, (b2i_f (fun h => ?_)).symm⟩
    · unfold Chart_canKeep_l2
      rw [l256, if_pos (by rw [mb_le (by omega) (by omega)]; omega)]
    · obtain ⟨i, hi, h1, h2⟩ := any_iff.mp h
      have b1 := bN_lt hw (show 1 < 5 by decide) i
      exact hn (bN T 1 i) b1 ⟨h2, (hs _ b1).mpr ⟨i, hi, h1, rfl⟩⟩
theorem c_heaviest {T : Tx} {S : St} (hw : wfT T) (hk : CB T S) {tried : Nat} (ht : tried < 256) : f_Chart_heaviest S (nI tried) = some (match nxTo T tried (tNt T 1) with | none => 0 | some b => nI b) := by
  have n8 := hw.2.2.2.1 1 (by decide)
  have nW := hw.2.2.2.2.1
  unfold f_Chart_heaviest Chart_heaviest_j76
  have key := wh_ix (f := un3 (Chart_heaviest_l7 S (nI tried))) (s := ((0 : Int32), (-1 : Int32), (0 : Int32))) (tNt T 1) (fun k q => q.2.2 = nI k ∧ (match nxTo T tried k with | none => q.1 = 0 ∧ q.2.1 = -1 | some b => q.1 = nI b ∧ q.2.1 = nI (tWt T b))) (fun r => r = (match nxTo T tried (tNt T 1) with | none => 0 | some b => nI b)) ⟨rfl, rfl, rfl⟩ ?_ ?_
  · obtain ⟨r, h1, h2⟩ := key
    rw [h1, h2, mb_bd]
  · intro k q hk1 hI
    obtain ⟨x2, x3, x4⟩ := q
    obtain ⟨e1, hx⟩ := hI
    dsimp only at e1 hx
    subst e1
    have hwk := nW k hk1
    have ekw := hk.2.2.2.2 k hk1
    left
    have head : Chart_heaviest_l7 S (nI tried) x2 x3 (nI k) = (if tried.testBit k = false then (if nI (tWt T k) ≤ x3 then some (.inl (x2, x3, nI (k + 1))) else some (.inl (nI k, nI (tWt T k), nI (k + 1)))) else some (.inl (x2, x3, nI (k + 1)))) := by
      unfold Chart_heaviest_l7 Chart_heaviest_j70_l7
      rw [l1, c_toldOf hk (by decide), mb_bd, if_neg (by rw [mb_le (by omega) (by omega)]; omega), if_neg (by rw [mb_le (by omega) (by omega)]; omega), mb_in (by omega) (by decide), mb_gd, mb_gd, mb_nm, mb_nm, mb_cl (by omega), ekw, nI_add, ← l1]
      by_cases c : tried.testBit k = false
      · rw [if_pos (by rw [bit_I ht (by omega)]; exact c), if_pos c]
        rfl
      · rw [if_neg (by rw [bit_I ht (by omega)]; exact c), if_neg c]
    show ∃ t, Chart_heaviest_l7 S (nI tried) x2 x3 (nI k) = some (.inl t) ∧ _
    rw [head]
    have hnx : nxTo T tried (k + 1) = cond (tried.testBit k) (nxTo T tried k) (match nxTo T tried k with | none => some k | some b => if tWt T b < tWt T k then some k else some b) := rfl
    cases hb : tried.testBit k with
    | true =>
      rw [hb] at hnx
      have hnx : nxTo T tried (k + 1) = nxTo T tried k := hnx
      rw [if_neg (by decide)]
      refine ⟨_, rfl, rfl, ?_⟩
      rw [hnx]
      exact hx
    | false =>
      rw [hb] at hnx
      have hnx : nxTo T tried (k + 1) = (match nxTo T tried k with | none => some k | some b => if tWt T b < tWt T k then some k else some b) := hnx
      rw [if_pos rfl]
      cases hn : nxTo T tried k with
      | none =>
        rw [hn] at hnx hx
        obtain ⟨rfl, rfl⟩ := hx
        rw [if_neg (by rw [show (-1 : Int32) = nI 0 - 1 from rfl]; intro z; exact absurd (Int32.lt_of_le_of_lt (nI_pos' (show tWt T k < 2 ^ 31 by omega)) (Int32.lt_of_le_of_lt z (by decide))) (Int32.lt_irrefl))]
        refine ⟨_, rfl, rfl, ?_⟩
        rw [hnx]
        exact ⟨rfl, rfl⟩
      | some b =>
        rw [hn] at hnx hx
        obtain ⟨rfl, rfl⟩ := hx
        have hbk := (nx_some k b hn).1
        have hwb := nW b (by omega)
        dsimp only at hnx
        by_cases d : tWt T b < tWt T k
        · rw [if_pos d] at hnx
          rw [if_neg (by rw [mb_le (by omega) (by omega)]; omega)]
          refine ⟨_, rfl, rfl, ?_⟩
          rw [hnx]
          exact ⟨rfl, rfl⟩
        · rw [if_neg d] at hnx
          rw [if_pos (by rw [mb_le (by omega) (by omega)]; omega)]
          refine ⟨_, rfl, rfl, ?_⟩
          rw [hnx]
          exact ⟨rfl, rfl⟩
  · intro q hI
    obtain ⟨x2, x3, x4⟩ := q
    obtain ⟨e1, hx⟩ := hI
    dsimp only at e1 hx
    subst e1
    refine ⟨x2, ?_, ?_⟩
    · show Chart_heaviest_l7 S (nI tried) x2 x3 (nI (tNt T 1)) = _
      unfold Chart_heaviest_l7
      rw [l1, c_toldOf hk (by decide), mb_bd, if_pos (by rw [mb_le (by omega) (by omega)]; omega)]
    · cases hn : nxTo T tried (tNt T 1) with
      | none => rw [hn] at hx; exact hx.1
      | some b => rw [hn] at hx; exact hx.1
theorem has_or {a b c : Nat} (h : has a (b ||| c) = true) : has a b = true := has_iff.mpr (fun j hj => has_iff.mp h j (by rw [Nat.testBit_or, hj]; rfl))
theorem ke_none {T : Tx} {laws : Nat} (h : anyS T laws 0 = false) : ∀ n, (keTo T laws n).1 = 0
  | 0 => rfl
  | n + 1 => by
    have ih := ke_none h n
    show (match nxTo T (keTo T laws n).2 (tNt T 1) with | none => keTo T laws n | some b => (cond (anyS T laws ((keTo T laws n).1 ||| 2 ^ b)) ((keTo T laws n).1 ||| 2 ^ b) (keTo T laws n).1, (keTo T laws n).2 ||| 2 ^ b)).1 = 0
    cases nxTo T (keTo T laws n).2 (tNt T 1) with
    | none => exact ih
    | some b =>
      show cond (anyS T laws ((keTo T laws n).1 ||| 2 ^ b)) ((keTo T laws n).1 ||| 2 ^ b) (keTo T laws n).1 = 0
      have : anyS T laws ((keTo T laws n).1 ||| 2 ^ b) = false := by
        cases hc : anyS T laws ((keTo T laws n).1 ||| 2 ^ b) with
        | false => rfl
        | true =>
          obtain ⟨i, hi, h1, h2⟩ := any_iff.mp hc
          have := any_iff.mpr ⟨i, hi, h1, has_0 (bN T 1 i)⟩
          rw [h] at this
          cases this
      rw [this]
      exact ih
theorem ke_S (T : Tx) (laws : Nat) : keS T laws = (keTo T laws (tNt T 1)).1 := by
  unfold keS
  cases h : anyS T laws 0 with
  | true => rfl
  | false => exact (ke_none h _).symm
theorem c_keepSoft {T : Tx} {on : Nat} {S : St} (hw : wfT T) (hk : CB T S) (hs : SS T on (tIn T) S) : ∃ S', f_Chart_keepSoft S = some S' ∧ agC [(4, 10)] [] [] S S' ∧ gI S' 4 10 = nI (keS T on) := by
  have n8 := hw.2.2.2.1 1 (by decide)
  unfold f_Chart_keepSoft
  rw [mb_nm]
  have key := wh_ix (f := un3 Chart_keepSoft_l9) (s := (pI S 4 10 0, (0 : Int32), (0 : Int32))) (tNt T 1) (fun n q => q.2.2 = nI n ∧ q.2.1 = nI (keTo T on n).2 ∧ gI q.1 4 10 = nI (keTo T on n).1 ∧ agC [(4, 10)] [] [] S q.1) (fun S' => agC [(4, 10)] [] [] S S' ∧ gI S' 4 10 = nI (keS T on)) ⟨rfl, rfl, by show gI (pI S 4 10 0) 4 10 = nI 0; rw [mb_II, if_pos ⟨rfl, rfl⟩]; rfl, agC.pI S 4 10 _ (by decide)⟩ ?_ ?_
  · obtain ⟨S', h1, h2⟩ := key
    rw [h1, mb_bd]
    exact ⟨S', rfl, h2⟩
  · intro n q hn hI
    obtain ⟨S1, x1, x2⟩ := q
    obtain ⟨e1, e2, e3, a1⟩ := hI
    dsimp only at e1 e2 e3 a1
    subst e1 e2
    have hk1 : CB T S1 := hk.ag a1 (by decide) (by decide)
    have hs1 : SS T on (tIn T) S1 := by
      unfold SS
      rw [a1.2.1 4 3 (by decide)]
      exact hs
    obtain ⟨l1', l2'⟩ := ke_lt hw on n
    have hpc := ke_pc hw on n (by omega)
    have hke : keTo T on (n + 1) = (match nxTo T (keTo T on n).2 (tNt T 1) with | none => keTo T on n | some b => (cond (anyS T on ((keTo T on n).1 ||| 2 ^ b)) ((keTo T on n).1 ||| 2 ^ b) (keTo T on n).1, (keTo T on n).2 ||| 2 ^ b)) := rfl
    cases hx : nxTo T (keTo T on n).2 (tNt T 1) with
    | none =>
      exfalso
      have := nx_none _ hx
      omega
    | some b =>
      rw [hx] at hke
      dsimp only at hke
      have hb8 : b < 8 := by
        have := (nx_some _ _ hx).1
        omega
      have hor : (keTo T on n).1 ||| 2 ^ b < 256 := or_lt8 l1' (pow_lt8 hb8)
      left
      have head : Chart_keepSoft_l9 S1 (nI (keTo T on n).2) (nI n) = (if b2i (anyS T on ((keTo T on n).1 ||| 2 ^ b)) = 0 then some (.inl (S1, nI ((keTo T on n).2 ||| 2 ^ b), nI (n + 1))) else some (.inl (pI S1 4 10 (nI ((keTo T on n).1 ||| 2 ^ b)), nI ((keTo T on n).2 ||| 2 ^ b), nI (n + 1)))) := by
        unfold Chart_keepSoft_l9 Chart_keepSoft_j56_l9
        rw [l1, c_toldOf hk1 (by decide), mb_bd, if_neg (by rw [mb_le (by omega) (by omega)]; omega), c_heaviest hw hk1 l2', mb_bd, mb_nm, mb_nm, hx]
        dsimp only
        rw [← l1, sh_bit b hb8, e3, nI_or, nI_or, c_canKeep hw hs1 hor, mb_bd, mb_nm, mb_nm, nI_1]
        rfl
      show ∃ t, Chart_keepSoft_l9 S1 (nI (keTo T on n).2) (nI n) = some (.inl t) ∧ _
      rw [head]
      cases ha : anyS T on ((keTo T on n).1 ||| 2 ^ b) with
      | false =>
        rw [ha] at hke
        rw [if_pos (by rfl)]
        refine ⟨_, rfl, rfl, ?_, ?_, a1⟩
        · rw [hke]
        · rw [hke]; exact e3
      | true =>
        rw [ha] at hke
        rw [if_neg (by decide)]
        refine ⟨_, rfl, rfl, ?_, ?_, a1.tr (agC.pI S1 4 10 _ (by decide))⟩
        · rw [hke]
        · rw [hke]
          show gI (pI S1 4 10 _) 4 10 = _
          rw [mb_II, if_pos ⟨rfl, rfl⟩]
          rfl
  · intro q hI
    obtain ⟨S1, x1, x2⟩ := q
    obtain ⟨e1, e2, e3, a1⟩ := hI
    dsimp only at e1 e2 e3 a1
    subst e1 e2
    have hk1 : CB T S1 := hk.ag a1 (by decide) (by decide)
    refine ⟨S1, ?_, a1, ?_⟩
    · show Chart_keepSoft_l9 S1 _ (nI (tNt T 1)) = _
      unfold Chart_keepSoft_l9
      rw [l1, c_toldOf hk1 (by decide), mb_bd, if_pos (by rw [mb_le (by omega) (by omega)]; omega)]
    · rw [ke_S]; exact e3
theorem lw_filter (T : Tx) (on ke : Nat) : ∀ n, lwTo T on ke n = (lwTo T on 0 n).filter (fun i => has (bN T 1 i) ke)
  | 0 => rfl
  | n + 1 => by
    have ih := lw_filter T on ke n
    show cond (isL T on ke n) (lwTo T on ke n ++ [n]) (lwTo T on ke n) = (cond (isL T on 0 n) (lwTo T on 0 n ++ [n]) (lwTo T on 0 n)).filter _
    rw [isL_0]
    unfold isL
    cases has (bN T 0 n) on with
    | false => exact ih
    | true =>
      show cond (has (bN T 1 n) ke) (lwTo T on ke n ++ [n]) (lwTo T on ke n) = (lwTo T on 0 n ++ [n]).filter _
      rw [List.filter_append, ← ih]
      cases hb : has (bN T 1 n) ke with
      | true => rw [List.filter_cons_of_pos (p := fun i => has (bN T 1 i) ke) hb]; rfl
      | false => rw [List.filter_cons_of_neg (p := fun i => has (bN T 1 i) ke) (by rw [hb]; decide), List.filter_nil, List.append_nil]; rfl
theorem take_snoc {l : List Nat} {k x : Nat} (h : l[k]? = some x) : l.take (k + 1) = l.take k ++ [x] := by
  rw [List.take_succ, h]
  rfl
theorem c_marksOf {T : Tx} {S : St} (hw : wfT T) (hn : CN S) (h13 : ¬ gI S 4 13 = 0) (hm : CM T S) {i : Nat} (hi : i < tIn T) : f_Chart_marksOf S (nI i) = some (nI (mkN T (!decide (gI S 4 14 = 0)) i)) := by
  have n1 := hw.2.2.1
  obtain ⟨hN, hmk, -⟩ := hm.1 h13
  have hN2 : gN S 4 5 ≤ 32768 := by
    have := hn.1
    unfold lnS at this
    omega
  unfold f_Chart_marksOf Chart_marksOf_j23
  rw [if_neg (nI_pos (by omega)), if_neg (by rw [mb_le (by omega) (by omega)]; omega), mb_in (by omega) (by omega), mb_gd, mb_cl (by omega), hmk i hi]
theorem c_narrow {T : Tx} {on : Nat} {S : St} (hw : wfT T) (hn : CN S) (h13 : ¬ gI S 4 13 = 0) (hm : CM T S) {ke : Nat} (hke : ke < 256) (hk10 : gI S 4 10 = nI ke) (h9 : gI S 4 9 = nI (lwTo T on 0 (tIn T)).length) (h7 : ∀ k x, (lwTo T on 0 (tIn T))[k]? = some x → gA S 4 7 k = nI x) : ∃ S', f_Chart_narrow S = some S' ∧ agC [(4, 9)] [(4, 7)] [] S S' ∧ gI S' 4 9 = nI (lwTo T on ke (tIn T)).length ∧ ∀ k x, (lwTo T on ke (tIn T))[k]? = some x → gA S' 4 7 k = nI x := by
  have n1 := hw.2.2.1
  obtain ⟨hN, -, -⟩ := hm.1 h13
  have hN2 : gN S 4 5 ≤ 32768 := by
    have := hn.1
    unfold lnS at this
    omega
  have hN7 := hn.2.1
  obtain ⟨l, el⟩ : ∃ l, l = lwTo T on 0 (tIn T) := ⟨_, rfl⟩
  have hll : l.length ≤ tIn T := by rw [el]; exact lw_len T on 0 (tIn T)
  have hmem : ∀ (k x : Nat), l[k]? = some x → x < tIn T := by
    intro k x hx
    rw [el] at hx
    exact (lw_mem (List.mem_of_getElem? hx)).1
  rw [← el] at h9 h7
  unfold f_Chart_narrow Chart_narrow_j66
  rw [mb_nm, hk10, ke_shl hke]
  have key := wh_ix (f := un3 (Chart_narrow_l12 (nI (ke <<< 8)))) (s := (S, (0 : Int32), (0 : Int32))) l.length (fun k q => q.2.2 = nI k ∧ q.2.1 = nI ((l.take k).filter (fun i => has (bN T 1 i) ke)).length ∧ agC [] [(4, 7)] [] S q.1 ∧ (∀ j x, ((l.take k).filter (fun i => has (bN T 1 i) ke))[j]? = some x → gA q.1 4 7 j = nI x) ∧ ∀ j, k ≤ j → gA q.1 4 7 j = gA S 4 7 j) (fun r => r.2 = nI (l.filter (fun i => has (bN T 1 i) ke)).length ∧ agC [] [(4, 7)] [] S r.1 ∧ ∀ j x, (l.filter (fun i => has (bN T 1 i) ke))[j]? = some x → gA r.1 4 7 j = nI x) ⟨rfl, by rw [List.take_zero]; rfl, agC.rf S, fun j x hx => (by rw [List.take_zero] at hx; cases hx), fun _ _ => rfl⟩ ?_ ?_
  · obtain ⟨⟨S1, x⟩, h1, e1, a1, v1⟩ := key
    dsimp only at e1 a1 v1
    subst e1
    rw [h1, mb_bd2, mb_nm]
    rw [lw_filter, ← el]
    refine ⟨_, rfl, (a1.wk (by decide) (by decide) (by decide)).tr (agC.pI S1 4 9 _ (by decide)), ?_, v1⟩
    rw [mb_II, if_pos ⟨rfl, rfl⟩]
  · intro k q hk hI
    obtain ⟨S1, x2, x3⟩ := q
    obtain ⟨e1, e2, a1, v1, v2⟩ := hI
    dsimp only at e1 e2 a1 v1 v2
    subst e1 e2
    have hg := get_some hk
    have hx := hmem _ _ hg
    have hfl : ((l.take k).filter (fun i => has (bN T 1 i) ke)).length ≤ k := Nat.le_trans (List.length_filter_le _ _) (by rw [List.length_take]; omega)
    have hm1 : CM T S1 := hm.ag a1 (by decide) (by decide)
    have hn1 : CN S1 := hn.ag a1
    have hmk := c_marksOf hw hn1 (by rw [a1.1 4 13 (by decide)]; exact h13) hm1 hx
    have hval : gA S1 4 7 k = nI (l.getD k 0) := by rw [v2 k (Nat.le_refl k)]; exact h7 k _ hg
    left
    have head : Chart_narrow_l12 (nI (ke <<< 8)) S1 (nI ((l.take k).filter (fun i => has (bN T 1 i) ke)).length) (nI k) = (if has (bN T 1 (l.getD k 0)) ke = true then some (.inl (pA S1 4 7 ((l.take k).filter (fun i => has (bN T 1 i) ke)).length (nI (l.getD k 0)), nI (((l.take k).filter (fun i => has (bN T 1 i) ke)).length + 1), nI (k + 1))) else some (.inl (S1, nI ((l.take k).filter (fun i => has (bN T 1 i) ke)).length, nI (k + 1)))) := by
      unfold Chart_narrow_l12 Chart_narrow_j60_l12
      rw [a1.1 4 9 (by decide), h9, if_neg (by rw [mb_le (by omega) (by omega)]; omega), a1.2.2.2, hN7, if_neg (by rw [mb_le (by omega) (by omega)]; omega), mb_in (by omega) (by omega), mb_gd, mb_nm, mb_cl (by omega), hval, hmk, mb_bd, mb_in (show ((l.take k).filter (fun i => has (bN T 1 i) ke)).length < gN S 4 5 by omega) (by omega), mb_gd, mb_nm, mb_nm, mb_nm, mb_nm, mb_cl (by omega), nI_1, nI_1]
      by_cases c : has (bN T 1 (l.getD k 0)) ke = true
      · rw [if_pos c, if_pos (by rw [mk_keI hw _ _ hke]; exact c)]
      · rw [if_neg c, if_neg (by rw [mk_keI hw _ _ hke]; exact c)]
    show ∃ t, Chart_narrow_l12 _ S1 _ (nI k) = some (.inl t) ∧ _
    rw [head]
    by_cases c : has (bN T 1 (l.getD k 0)) ke = true
    · have hst : (l.take (k + 1)).filter (fun i => has (bN T 1 i) ke) = (l.take k).filter (fun i => has (bN T 1 i) ke) ++ [l.getD k 0] := by
        rw [take_snoc hg, List.filter_append]
        congr 1
        exact List.filter_cons_of_pos c
      rw [if_pos c]
      refine ⟨_, rfl, rfl, ?_, a1.tr (agC.pA S1 4 7 _ _ (by decide)), ?_, ?_⟩
      · rw [hst, List.length_append]; rfl
      · intro j x hx2
        rw [hst] at hx2
        show gA (pA S1 4 7 _ _) 4 7 j = _
        rw [mb_AA]
        by_cases e : j = ((l.take k).filter (fun i => has (bN T 1 i) ke)).length
        · rw [if_pos ⟨rfl, rfl, e⟩]
          rw [e, List.getElem?_append_right (Nat.le_refl _), Nat.sub_self] at hx2
          rw [Option.some.inj hx2]
        · rw [if_neg (fun z => e z.2.2)]
          have hlt : j < ((l.take k).filter (fun i => has (bN T 1 i) ke) ++ [l.getD k 0]).length := by
            rcases Nat.lt_or_ge j ((l.take k).filter (fun i => has (bN T 1 i) ke) ++ [l.getD k 0]).length with z | z
            · exact z
            · rw [List.getElem?_eq_none z] at hx2
              cases hx2
          rw [List.length_append] at hlt
          have hlt : j < ((l.take k).filter (fun i => has (bN T 1 i) ke)).length + 1 := hlt
          rw [List.getElem?_append_left (by omega)] at hx2
          exact v1 j x hx2
      · intro j hj
        show gA (pA S1 4 7 _ _) 4 7 j = _
        rw [mb_AA, if_neg (fun z => by omega)]
        exact v2 j (by omega)
    · have hst : (l.take (k + 1)).filter (fun i => has (bN T 1 i) ke) = (l.take k).filter (fun i => has (bN T 1 i) ke) := by
        rw [take_snoc hg, List.filter_append, List.filter_cons_of_neg (by exact c), List.filter_nil, List.append_nil]
      rw [if_neg c]
      refine ⟨_, rfl, rfl, by rw [hst], a1, ?_, fun j hj => v2 j (by omega)⟩
      rw [hst]
      exact v1
  · intro q hI
    obtain ⟨S1, x2, x3⟩ := q
    obtain ⟨e1, e2, a1, v1, v2⟩ := hI
    dsimp only at e1 e2 a1 v1 v2
    subst e1 e2
    rw [List.take_length] at v1 ⊢
    refine ⟨(S1, nI (l.filter (fun i => has (bN T 1 i) ke)).length), ?_, rfl, a1, v1⟩
    show Chart_narrow_l12 _ S1 (nI (l.filter (fun i => has (bN T 1 i) ke)).length) (nI l.length) = _
    unfold Chart_narrow_l12
    rw [a1.1 4 9 (by decide), h9, if_pos (by rw [mb_le (by omega) (by omega)]; omega)]
