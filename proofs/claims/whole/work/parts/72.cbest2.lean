/-! the class: best, least -/
theorem fiK_s {T : Tx} {on o : Nat} : ∀ {n k : Nat}, fiK T on o n = some k → k < n ∧ bq T on k = o ∧ ∀ i, i < n → bq T on i = o → k ≤ i
  | 0, k, h => by cases h
  | n + 1, k, h => by
    have h' : (match fiK T on o n with | some j => some j | none => cond (Nat.beq (bq T on n) o) (some n) none) = some k := h
    cases hx : fiK T on o n with
    | some j =>
      rw [hx] at h'
      have e : j = k := Option.some.inj h'
      subst e
      obtain ⟨g1, g2, g3⟩ := fiK_s hx
      refine ⟨by omega, g2, fun i hi hb => ?_⟩
      by_cases c : i < n
      · exact g3 i c hb
      · omega
    | none =>
      rw [hx] at h'
      have hn : ∀ n, fiK T on o n = none → ∀ i, i < n → ¬ bq T on i = o := by
        intro n
        induction n with
        | zero => intro _ i hi; exact absurd hi (Nat.not_lt_zero i)
        | succ n ih =>
          intro hq i hi
          have hq' : (match fiK T on o n with | some j => some j | none => cond (Nat.beq (bq T on n) o) (some n) none) = none := hq
          cases hy : fiK T on o n with
          | some j => rw [hy] at hq'; cases hq'
          | none =>
            rw [hy] at hq'
            by_cases e : i = n
            · subst e
              intro z
              rw [z, Nat.beq_refl] at hq'
              cases hq'
            · exact ih hy i (by omega)
      cases hc : Nat.beq (bq T on n) o with
      | true =>
        rw [hc] at h'
        have e : n = k := Option.some.inj h'
        subst e
        refine ⟨by omega, Nat.eq_of_beq_eq_true hc, fun i hi hb => ?_⟩
        rcases Nat.lt_or_ge i n with z | z
        · exact absurd hb (hn n hx i z)
        · exact z
      | false =>
        rw [hc] at h'
        cases h'
theorem fiK_n {T : Tx} {on o : Nat} : ∀ {n : Nat}, fiK T on o n = none → ∀ i, i < n → ¬ bq T on i = o
  | 0, _, i, hi => absurd hi (Nat.not_lt_zero i)
  | n + 1, hq, i, hi => by
    have hq' : (match fiK T on o n with | some j => some j | none => cond (Nat.beq (bq T on n) o) (some n) none) = none := hq
    cases hy : fiK T on o n with
    | some j => rw [hy] at hq'; cases hq'
    | none =>
      rw [hy] at hq'
      by_cases e : i = n
      · subst e
        intro z
        rw [z, Nat.beq_refl] at hq'
        cases hq'
      · exact fiK_n hy i (by omega)
/-- what the log meets -/
def uoK (T : Tx) (lg : List Nat) : Nat → Nat
  | 0 => 0
  | k + 1 => uoK T lg k ||| bN T 2 (lg.getD k 0)
theorem uoK_lt {T : Tx} (hw : wfT T) (lg : List Nat) : ∀ k, uoK T lg k < 256
  | 0 => show (0 : Nat) < 256 by decide
  | k + 1 => or_lt8 (uoK_lt hw lg k) (bN_lt hw (by decide) _)
theorem uoK_tb (T : Tx) (lg : List Nat) (j : Nat) : ∀ k, (uoK T lg k).testBit j = true ↔ ∃ i, i < k ∧ (bN T 2 (lg.getD i 0)).testBit j = true
  | 0 => ⟨fun h => (by rw [show uoK T lg 0 = 0 from rfl, Nat.zero_testBit] at h; cases h), fun ⟨i, hi, _⟩ => absurd hi (Nat.not_lt_zero i)⟩
  | k + 1 => by
    rw [show uoK T lg (k + 1) = uoK T lg k ||| bN T 2 (lg.getD k 0) from rfl, Nat.testBit_or, Bool.or_eq_true, uoK_tb T lg j k]
    constructor
    · rintro (⟨i, hi, h⟩ | h)
      · exact ⟨i, by omega, h⟩
      · exact ⟨k, by omega, h⟩
    · rintro ⟨i, hi, h⟩
      rcases Nat.lt_or_ge i k with z | z
      · exact Or.inl ⟨i, z, h⟩
      · have : i = k := by omega
        subst this
        exact Or.inr h
theorem hi_0 (T : Tx) (lg : List Nat) (b : Nat) : hiN T lg b = 0 ↔ (uoK T lg lg.length).testBit b = false := by
  unfold hiN cN
  rw [List.length_eq_zero_iff, List.filter_eq_nil_iff]
  constructor
  · intro h
    cases hc : (uoK T lg lg.length).testBit b with
    | false => rfl
    | true =>
      obtain ⟨i, hi, h1⟩ := (uoK_tb T lg b _).mp hc
      exact absurd h1 (h _ (List.mem_of_getElem? (get_some hi)))
  · intro h x hx h1
    obtain ⟨i, hi⟩ := List.getElem?_of_mem hx
    have hlt := (List.getElem?_eq_some_iff.mp hi).1
    have e : lg.getD i 0 = x := by rw [List.getD_eq_getElem?_getD, hi]; rfl
    have := (uoK_tb T lg b lg.length).mpr ⟨i, hlt, by rw [e]; exact h1⟩
    rw [h] at this
    cases this
theorem woK_tb (T : Tx) (lg : List Nat) : ∀ n j, (woK T lg n).testBit j = (decide (j < n) && Nat.beq (hiN T lg j) 0)
  | 0, j => by
    show (0 : Nat).testBit j = _
    simp
  | n + 1, j => by
    have h := woK_lt T lg n
    have ih := woK_tb T lg n j
    have hstep : woK T lg (n + 1) = woK T lg n ||| cond (Nat.beq (hiN T lg n) 0) (2 ^ n) 0 := by
      show woK T lg n + cond (Nat.beq (hiN T lg n) 0) (2 ^ n) 0 = _
      cases Nat.beq (hiN T lg n) 0
      · show _ + 0 = _ ||| 0
        rw [Nat.or_zero, Nat.add_zero]
      · exact (or_pow h).symm
    rw [hstep, Nat.testBit_or, ih]
    by_cases e : j = n
    · subst e
      rw [decide_eq_false (Nat.lt_irrefl j), decide_eq_true (Nat.lt_succ_self j)]
      cases Nat.beq (hiN T lg j) 0
      · show (false && _ || (0 : Nat).testBit j) = _
        simp
      · show (false && _ || (2 ^ j).testBit j) = _
        rw [Nat.testBit_two_pow_self]
        rfl
    · have : (cond (Nat.beq (hiN T lg n) 0) (2 ^ n) 0).testBit j = false := by
        cases Nat.beq (hiN T lg n) 0
        · show (0 : Nat).testBit j = _
          simp
        · show (2 ^ n).testBit j = _
          rw [Nat.testBit_two_pow]
          exact decide_eq_false (fun z => e z.symm)
      rw [this, Bool.or_false]
      congr 1
      by_cases c : j < n
      · rw [decide_eq_true c, decide_eq_true (show j < n + 1 by omega)]
      · rw [decide_eq_false c, decide_eq_false (show ¬ j < n + 1 by omega)]
def unS (T : Tx) (lg : List Nat) : Nat := df 255 (uoK T lg lg.length)
theorem unS_lt (T : Tx) (lg : List Nat) : unS T lg < 256 := df_le8 _ (by decide)
theorem unS_tb (T : Tx) (lg : List Nat) {j : Nat} (hj : j < 8) : (unS T lg).testBit j = Nat.beq (hiN T lg j) 0 := by
  unfold unS
  rw [df_tb, show (255 : Nat) = 2 ^ 8 - 1 from rfl, Nat.testBit_two_pow_sub_one, decide_eq_true hj, Bool.true_and]
  cases hu : (uoK T lg lg.length).testBit j with
  | false =>
    rw [(hi_0 T lg j).mpr hu]
    rfl
  | true =>
    have : ¬ hiN T lg j = 0 := by
      intro z
      rw [(hi_0 T lg j).mp z] at hu
      cases hu
    cases hb : Nat.beq (hiN T lg j) 0 with
    | false => rfl
    | true => exact absurd (Nat.eq_of_beq_eq_true hb) this
theorem un_wo {T : Tx} (hw : wfT T) (lg : List Nat) {m : Nat} (hm : m < 2 ^ tNt T 2) : m &&& unS T lg = m &&& woS T lg := tb_ext (fun j => by
  have n8 := hw.2.2.2.1 2 (by decide)
  rw [Nat.testBit_and, Nat.testBit_and]
  by_cases c : j < tNt T 2
  · rw [unS_tb T lg (by omega)]
    unfold woS
    rw [woK_tb, decide_eq_true c, Bool.true_and]
  · rw [Nat.testBit_lt_two_pow (Nat.lt_of_lt_of_le hm (Nat.pow_le_pow_right (by decide) (by omega)))]
    rfl)
variable {T : Tx} {on tn : Nat} {lg : List Nat} {tb : Nat → Int32} {pl : Int32} {S S' : St}
theorem c_unmet (h : cInv T on lg tn tb pl S) (h14 : ¬ gI S 4 14 = 0) : f_Log_unmet S = some (nI (unS T lg)) := by
  have hw := h.1
  have hL := h.2.2.2.2.2.2.2.2.1
  have hl1 := hL.1
  unfold f_Log_unmet
  have key := wh_ix (f := un2 (Log_unmet_l4 S)) (s := ((0 : Int32), (0 : Int32))) lg.length (fun k q => q.2 = nI k ∧ q.1 = nI (uoK T lg k)) (fun r => r = nI (uoK T lg lg.length)) ⟨rfl, rfl⟩ ?_ ?_
  · obtain ⟨r, h1, h2⟩ := key
    rw [h1, h2, mb_bd, show (255 : Int32) = nI 255 from rfl, df_J (by decide)]
    rfl
  · intro k q hk hI
    obtain ⟨x2, x3⟩ := q
    obtain ⟨e1, e2⟩ := hI
    dsimp only at e1 e2
    subst e1 e2
    have hg := get_some hk
    have hlt := (hL.2.2 k _ hg).2
    left
    refine ⟨(nI (uoK T lg (k + 1)), nI (k + 1)), ?_, rfl, rfl⟩
    show Log_unmet_l4 S (nI (uoK T lg k)) (nI k) = _
    unfold Log_unmet_l4
    rw [hL.2.1, if_neg (by rw [mb_le (by omega) (by omega)]; omega), c_logIn hL hg, mb_bd, c_binsOf h h14 hlt, mb_bd, mb_nm, mb_nm, nI_or, nI_1]
    rfl
  · intro q hI
    obtain ⟨x2, x3⟩ := q
    obtain ⟨e1, e2⟩ := hI
    dsimp only at e1 e2
    subst e1 e2
    refine ⟨nI (uoK T lg lg.length), ?_, rfl⟩
    show Log_unmet_l4 S _ (nI lg.length) = _
    unfold Log_unmet_l4
    rw [hL.2.1, if_pos (by rw [mb_le (by omega) (by omega)]; omega)]
def gB2 (T : Tx) (on wo k : Nat) : Nat := pcB (bq T on k &&& wo) 8
theorem be_char (T : Tx) (on wo : Nat) : ∀ n, ∃ b, beTo T on wo (n + 1) = (some b, gB2 T on wo b) ∧ b < n + 1 ∧ ∀ k, k < n + 1 → gB2 T on wo k ≤ gB2 T on wo b ∧ (gB2 T on wo k = gB2 T on wo b → b ≤ k)
  | 0 => ⟨0, rfl, by omega, fun k hk => by
    have : k = 0 := by omega
    subst this
    exact ⟨Nat.le_refl _, fun _ => Nat.le_refl _⟩⟩
  | n + 1 => by
    obtain ⟨b, h1, h2, h3⟩ := be_char T on wo n
    have hs : beTo T on wo (n + 1 + 1) = if gB2 T on wo b < gB2 T on wo (n + 1) then (some (n + 1), gB2 T on wo (n + 1)) else (some b, gB2 T on wo b) := by
      show (match (beTo T on wo (n + 1)).1 with | none => _ | some b => if (beTo T on wo (n + 1)).2 < _ then _ else (some b, (beTo T on wo (n + 1)).2)) = _
      rw [h1]
      rfl
    rw [hs]
    by_cases c : gB2 T on wo b < gB2 T on wo (n + 1)
    · rw [if_pos c]
      refine ⟨n + 1, rfl, by omega, fun k hk => ?_⟩
      by_cases e : k = n + 1
      · rw [e]; exact ⟨Nat.le_refl _, fun _ => Nat.le_refl _⟩
      · have := h3 k (by omega)
        exact ⟨by omega, fun z => by omega⟩
    · rw [if_neg c]
      refine ⟨b, rfl, by omega, fun k hk => ?_⟩
      by_cases e : k = n + 1
      · rw [e]; exact ⟨by omega, fun _ => by omega⟩
      · exact h3 k (by omega)
/-- the best of those whose bins are below s -/
def beS (T : Tx) (on wo s : Nat) (x2 x3 : Int32) : Prop := (x2 = -1 ∧ x3 = -1 ∧ ∀ k, k < (lwS T on).length → ¬ bq T on k < s) ∨ ∃ b, b < (lwS T on).length ∧ bq T on b < s ∧ x2 = nI b ∧ x3 = nI (gB2 T on wo b) ∧ ∀ k, k < (lwS T on).length → bq T on k < s → gB2 T on wo k ≤ gB2 T on wo b ∧ (gB2 T on wo k = gB2 T on wo b → b ≤ k)
theorem c_most (h : cInv T on lg tn tb pl S) (h7 : ¬ gI S 8 7 = 0) : f_Bins_meetingMost S (nI (unS T lg)) = some (spBest T on lg) := by
  have hw := h.1
  have n8 := hw.2.2.2.1 2 (by decide)
  have hlen := lwS_len hw on
  obtain ⟨e5, hX⟩ := h.2.2.2.2.2.2.2.2.2.1 h7
  have hp8 : 2 ^ tNt T 2 ≤ 256 := Nat.pow_le_pow_right (n := 2) (i := tNt T 2) (j := 8) (by decide) n8
  have hbl : ∀ k, bq T on k < 2 ^ tNt T 2 := fun k => bN_ltp T 2 _
  unfold f_Bins_meetingMost Bins_meetingMost_j86
  have key := wh_ix (f := un3 (Bins_meetingMost_l7 S (nI (unS T lg)))) (s := ((-1 : Int32), (-1 : Int32), (0 : Int32))) (2 ^ tNt T 2) (fun s q => q.2.2 = nI s ∧ beS T on (woS T lg) s q.1 q.2.1) (fun r => ∃ y, beS T on (woS T lg) (2 ^ tNt T 2) r y) ⟨rfl, Or.inl ⟨rfl, rfl, fun k _ => Nat.not_lt_zero _⟩⟩ ?_ ?_
  · obtain ⟨r, h1, y, h2⟩ := key
    rw [h1, mb_bd]
    congr 1
    unfold spBest
    rcases h2 with ⟨e1, -, hn⟩ | ⟨b, hb, -, e1, -, hmax⟩
    · have : (lwS T on).length = 0 := by
        rcases Nat.eq_zero_or_pos (lwS T on).length with z | z
        · exact z
        · exact absurd (hbl 0) (hn 0 z)
      rw [this, e1]
      rfl
    · obtain ⟨n, hn⟩ : ∃ n, (lwS T on).length = n + 1 := ⟨(lwS T on).length - 1, by omega⟩
      obtain ⟨c, hc1, hc2, hc3⟩ := be_char T on (woS T lg) n
      rw [hn, hc1, e1]
      have g1 := hmax c (by omega) (hbl c)
      have g2 := hc3 b (by omega)
      have : b = c := by
        have e : gB2 T on (woS T lg) c = gB2 T on (woS T lg) b := by omega
        have := g1.2 e
        have := g2.2 e.symm
        omega
      rw [this]
      rfl
  · intro s q hs hI
    obtain ⟨x2, x3, x4⟩ := q
    obtain ⟨e1, hb⟩ := hI
    dsimp only at e1 hb
    subst e1
    have hs8 : s < 256 := by omega
    have hm := pcB_le (s &&& woS T lg) 8
    have hal : s &&& woS T lg < 256 := Nat.lt_of_le_of_lt Nat.and_le_left hs8
    have hfi := (hX s hs8).2
    left
    have head : Bins_meetingMost_l7 S (nI (unS T lg)) x2 x3 (nI s) = (if gA S 8 1 s = -1 then some (.inl (x2, x3, nI (s + 1))) else if x3 < nI (pcB (s &&& woS T lg) 8) then some (.inl (gA S 8 1 s, nI (pcB (s &&& woS T lg) 8), nI (s + 1))) else if nI (pcB (s &&& woS T lg) 8) = x3 then (if x2 ≤ gA S 8 1 s then some (.inl (x2, x3, nI (s + 1))) else some (.inl (gA S 8 1 s, nI (pcB (s &&& woS T lg) 8), nI (s + 1)))) else some (.inl (x2, x3, nI (s + 1)))) := by
      unfold Bins_meetingMost_l7 Bins_meetingMost_j69_l7 Bins_meetingMost_j80_l7
      rw [e5, if_neg (by rw [mb_le (by omega) (by omega)]; omega), if_neg (by rw [mb_le (by omega) (by omega)]; omega), nI_and, un_wo hw lg hs, bc_I _ hal, mb_bd, mb_in hs8 (by decide), mb_gd, mb_gd, mb_gd, mb_nm, mb_nm, mb_nm, mb_cl (by omega), nI_1]
    show ∃ t, Bins_meetingMost_l7 S (nI (unS T lg)) x2 x3 (nI s) = some (.inl t) ∧ _
    rw [head, hfi]
    cases hx : fiK T on s (lwS T on).length with
    | none =>
      have hno := fiK_n hx
      rw [if_pos (by rfl)]
      refine ⟨_, rfl, rfl, ?_⟩
      rcases hb with ⟨e1, e2, hn⟩ | ⟨b, hbl1, hb2, e1, e2, hmax⟩
      · left
        refine ⟨e1, e2, fun k hk z => ?_⟩
        have z1 := hn k hk
        have z2 := hno k hk
        omega
      · right
        refine ⟨b, hbl1, by omega, e1, e2, fun k hk z => ?_⟩
        have z2 := hno k hk
        exact hmax k hk (by omega)
    | some j =>
      obtain ⟨hj, hjs, hjm⟩ := fiK_s hx
      have hjl : nI j = oI (some j) := rfl
      rw [← hjl, if_neg (nI_m1 (by omega))]
      have hgj : pcB (s &&& woS T lg) 8 = gB2 T on (woS T lg) j := by unfold gB2; rw [hjs]
      have hgs : ∀ k, bq T on k = s → gB2 T on (woS T lg) k = gB2 T on (woS T lg) j := by
        intro k hk
        unfold gB2
        rw [hk, hjs]
      rw [hgj]
      rw [hgj] at hm
      rcases hb with ⟨e1, e2, hn⟩ | ⟨b, hbl1, hb2, e1, e2, hmax⟩
      · subst e1 e2
        rw [if_pos (Int32.lt_of_lt_of_le (show (-1 : Int32) < 0 by decide) (nI_pos' (by omega)))]
        refine ⟨_, rfl, rfl, Or.inr ⟨j, hj, by omega, rfl, rfl, fun k hk z => ?_⟩⟩
        have z1 := hn k hk
        have e : bq T on k = s := by omega
        rw [hgs k e]
        exact ⟨Nat.le_refl _, fun _ => hjm k hk e⟩
      · subst e1 e2
        have hgb : gB2 T on (woS T lg) b ≤ 8 := pcB_le _ 8
        by_cases c1 : gB2 T on (woS T lg) b < gB2 T on (woS T lg) j
        · rw [if_pos (by rw [mb_lt (by omega) (by omega)]; exact c1)]
          refine ⟨_, rfl, rfl, Or.inr ⟨j, hj, by omega, rfl, rfl, fun k hk z => ?_⟩⟩
          by_cases e : bq T on k = s
          · rw [hgs k e]
            exact ⟨Nat.le_refl _, fun _ => hjm k hk e⟩
          · have := hmax k hk (by omega)
            exact ⟨by omega, fun z => by omega⟩
        · rw [if_neg (by rw [mb_lt (by omega) (by omega)]; exact c1)]
          by_cases c2 : gB2 T on (woS T lg) j = gB2 T on (woS T lg) b
          · rw [if_pos (by rw [c2])]
            by_cases c3 : b ≤ j
            · rw [if_pos (by rw [mb_le (by omega) (by omega)]; exact c3)]
              refine ⟨_, rfl, rfl, Or.inr ⟨b, hbl1, by omega, rfl, rfl, fun k hk z => ?_⟩⟩
              by_cases e : bq T on k = s
              · rw [hgs k e]
                exact ⟨by omega, fun _ => by have := hjm k hk e; omega⟩
              · exact hmax k hk (by omega)
            · rw [if_neg (by rw [mb_le (by omega) (by omega)]; exact c3)]
              refine ⟨_, rfl, rfl, Or.inr ⟨j, hj, by omega, rfl, rfl, fun k hk z => ?_⟩⟩
              by_cases e : bq T on k = s
              · rw [hgs k e]
                exact ⟨Nat.le_refl _, fun _ => hjm k hk e⟩
              · have := hmax k hk (by omega)
                exact ⟨by omega, fun z => by have := this.2 (by omega); omega⟩
          · rw [if_neg (by rw [mb_eq (by omega) (by omega)]; exact c2)]
            refine ⟨_, rfl, rfl, Or.inr ⟨b, hbl1, by omega, rfl, rfl, fun k hk z => ?_⟩⟩
            by_cases e : bq T on k = s
            · rw [hgs k e]
              exact ⟨by omega, fun z => by omega⟩
            · exact hmax k hk (by omega)
  · intro q hI
    obtain ⟨x2, x3, x4⟩ := q
    obtain ⟨e1, hb⟩ := hI
    dsimp only at e1 hb
    subst e1
    refine ⟨x2, ?_, x3, hb⟩
    show Bins_meetingMost_l7 S (nI (unS T lg)) x2 x3 (nI (2 ^ tNt T 2)) = _
    unfold Bins_meetingMost_l7
    rw [e5, if_pos (by rw [mb_le (by omega) (by omega)]; omega)]
theorem cc_best (h : cInv T on lg tn tb pl S) : ∃ S', f_Lots_best S = some (spBest T on lg, S') ∧ cInv T on lg tn tb pl S' ∧ Ph S + kMark S ≤ Ph S' := by
  obtain ⟨S1, h1, hi, hf, h14, h7, hp⟩ := c_lotsBins h
  unfold f_Lots_best
  rw [h1, mb_bd, c_unmet hi h14, mb_bd, c_most hi h7, mb_bd]
  exact ⟨S1, rfl, hi, hp⟩
