/-! the class: best, least -/
/-- what the log meets -/
def uoK (T : Tx) (lg : List Nat) : Nat → Nat
  | 0 => 0
  | k + 1 => uoK T lg k ||| bN T 2 (lg.getD k 0)
theorem uoK_lt {T : Tx} (hw : wfT T) (lg : List Nat) : ∀ k, uoK T lg k < 256
  | 0 => show (0 : Nat) < 256 by decide
  | k + 1 => or_lt8 (uoK_lt hw lg k) (bN_lt hw (by decide) _)
theorem uoK_tb (T : Tx) (lg : List Nat) (j : Nat) : ∀ k, (uoK T lg k).testBit j = true ↔ ∃ i, i < k ∧ (bN T 2 (lg.getD i 0)).testBit j = true
  | 0 => ⟨fun h => (by rw [show uoK T lg 0 = 0 from rfl, Nat.zero_testBit] at h; cases h), fun ⟨i, hi, _⟩ => absurd hi (Nat.not_lt_zero i)⟩
  | k + 1 => by
    rw [show uoK T lg (k + 1) = uoK T lg k ||| bN T 2 (lg.getD k 0) from rfl, Nat.testBit_or, Bool.or_eq_true, uoK_tb T lg j k]
    constructor
    · rintro (⟨i, hi, h⟩ | h)
      · exact ⟨i, by omega, h⟩
      · exact ⟨k, by omega, h⟩
    · rintro ⟨i, hi, h⟩
      rcases Nat.lt_or_ge i k with z | z
      · exact Or.inl ⟨i, z, h⟩
      · have : i = k := by omega
        subst this
        exact Or.inr h
theorem hi_0 (T : Tx) (lg : List Nat) (b : Nat) : hiN T lg b = 0 ↔ (uoK T lg lg.length).testBit b = false := by
  unfold hiN cN
  rw [List.length_eq_zero_iff, List.filter_eq_nil_iff]
  constructor
  · intro h
    cases hc : (uoK T lg lg.length).testBit b with
    | false => rfl
    | true =>
      obtain ⟨i, hi, h1⟩ := (uoK_tb T lg b _).mp hc
      exact absurd h1 (h _ (List.mem_of_getElem? (get_some hi)))
  · intro h x hx h1
    obtain ⟨i, hi⟩ := List.getElem?_of_mem hx
    have hlt := (List.getElem?_eq_some_iff.mp hi).1
    have e : lg.getD i 0 = x := by rw [List.getD_eq_getElem?_getD, hi]; rfl
    have := (uoK_tb T lg b lg.length).mpr ⟨i, hlt, by rw [e]; exact h1⟩
    rw [h] at this
    cases this
theorem woK_tb (T : Tx) (lg : List Nat) : ∀ n j, (woK T lg n).testBit j = (decide (j < n) && Nat.beq (hiN T lg j) 0)
  | 0, j => by
    show (0 : Nat).testBit j = _
    simp
  | n + 1, j => by
    have h := woK_lt T lg n
    have ih := woK_tb T lg n j
    have hstep : woK T lg (n + 1) = woK T lg n ||| cond (Nat.beq (hiN T lg n) 0) (2 ^ n) 0 := by
      show woK T lg n + cond (Nat.beq (hiN T lg n) 0) (2 ^ n) 0 = _
      cases Nat.beq (hiN T lg n) 0
      · show _ + 0 = _ ||| 0
        rw [Nat.or_zero, Nat.add_zero]
      · exact (or_pow h).symm
    rw [hstep, Nat.testBit_or, ih]
    by_cases e : j = n
    · subst e
      rw [decide_eq_false (Nat.lt_irrefl j), decide_eq_true (Nat.lt_succ_self j)]
      cases Nat.beq (hiN T lg j) 0
      · show (false && _ || (0 : Nat).testBit j) = _
        simp
      · show (false && _ || (2 ^ j).testBit j) = _
        rw [Nat.testBit_two_pow_self]
        rfl
    · have : (cond (Nat.beq (hiN T lg n) 0) (2 ^ n) 0).testBit j = false := by
        cases Nat.beq (hiN T lg n) 0
        · show (0 : Nat).testBit j = _
          simp
        · show (2 ^ n).testBit j = _
          rw [Nat.testBit_two_pow]
          exact decide_eq_false (fun z => e z.symm)
      rw [this, Bool.or_false]
      congr 1
      by_cases c : j < n
      · rw [decide_eq_true c, decide_eq_true (show j < n + 1 by omega)]
      · rw [decide_eq_false c, decide_eq_false (show ¬ j < n + 1 by omega)]
def unS (T : Tx) (lg : List Nat) : Nat := df 255 (uoK T lg lg.length)
theorem unS_lt (T : Tx) (lg : List Nat) : unS T lg < 256 := df_le8 _ (by decide)
theorem unS_tb (T : Tx) (lg : List Nat) {j : Nat} (hj : j < 8) : (unS T lg).testBit j = Nat.beq (hiN T lg j) 0 := by
  unfold unS
  rw [df_tb, show (255 : Nat) = 2 ^ 8 - 1 from rfl, Nat.testBit_two_pow_sub_one, decide_eq_true hj, Bool.true_and]
  cases hu : (uoK T lg lg.length).testBit j with
  | false =>
    rw [(hi_0 T lg j).mpr hu]
    rfl
  | true =>
    have : ¬ hiN T lg j = 0 := by
      intro z
      rw [(hi_0 T lg j).mp z] at hu
      cases hu
    cases hb : Nat.beq (hiN T lg j) 0 with
    | false => rfl
    | true => exact absurd (Nat.eq_of_beq_eq_true hb) this
theorem un_wo {T : Tx} (hw : wfT T) (lg : List Nat) {m : Nat} (hm : m < 2 ^ tNt T 2) : m &&& unS T lg = m &&& woS T lg := tb_ext (fun j => by
  have n8 := hw.2.2.2.1 2 (by decide)
  rw [Nat.testBit_and, Nat.testBit_and]
  by_cases c : j < tNt T 2
  · rw [unS_tb T lg (by omega)]
    unfold woS
    rw [woK_tb, decide_eq_true c, Bool.true_and]
  · rw [Nat.testBit_lt_two_pow (Nat.lt_of_lt_of_le hm (Nat.pow_le_pow_right (by decide) (by omega)))]
    rfl)
variable {T : Tx} {on tn : Nat} {lg : List Nat} {tb : Nat → Int32} {pl : Int32} {S S' : St}
theorem c_unmet (h : cInv T on lg tn tb pl S) (h14 : ¬ gI S 4 14 = 0) : f_Log_unmet S = some (nI (unS T lg)) := by
  have hw := h.1
  have hL := h.2.2.2.2.2.2.2.2.1
  have hl1 := hL.1
  unfold f_Log_unmet
  have key := wh_ix (f := un2 (Log_unmet_l4 S)) (s := ((0 : Int32), (0 : Int32))) lg.length (fun k q => q.2 = nI k ∧ q.1 = nI (uoK T lg k)) (fun r => r = nI (uoK T lg lg.length)) ⟨rfl, rfl⟩ ?_ ?_
  · obtain ⟨r, h1, h2⟩ := key
    rw [h1, h2, mb_bd, show (255 : Int32) = nI 255 from rfl, df_J (by decide)]
    rfl
  · intro k q hk hI
    obtain ⟨x2, x3⟩ := q
    obtain ⟨e1, e2⟩ := hI
    dsimp only at e1 e2
    subst e1 e2
    have hg := get_some hk
    have hlt := (hL.2.2 k _ hg).2
    left
    refine ⟨(nI (uoK T lg (k + 1)), nI (k + 1)), ?_, rfl, rfl⟩
    show Log_unmet_l4 S (nI (uoK T lg k)) (nI k) = _
    unfold Log_unmet_l4
    rw [hL.2.1, if_neg (by rw [mb_le (by omega) (by omega)]; omega), c_logIn hL hg, mb_bd, c_binsOf h h14 hlt, mb_bd, mb_nm, mb_nm, nI_or, nI_1]
    rfl
  · intro q hI
    obtain ⟨x2, x3⟩ := q
    obtain ⟨e1, e2⟩ := hI
    dsimp only at e1 e2
    subst e1 e2
    refine ⟨nI (uoK T lg lg.length), ?_, rfl⟩
    show Log_unmet_l4 S _ (nI lg.length) = _
    unfold Log_unmet_l4
    rw [hL.2.1, if_pos (by rw [mb_le (by omega) (by omega)]; omega)]
def gB2 (T : Tx) (on wo k : Nat) : Nat := pcB (bq T on k &&& wo) 8
theorem be_char (T : Tx) (on wo : Nat) : ∀ n, ∃ b, beTo T on wo (n + 1) = (some b, gB2 T on wo b) ∧ b < n + 1 ∧ ∀ k, k < n + 1 → gB2 T on wo k ≤ gB2 T on wo b ∧ (gB2 T on wo k = gB2 T on wo b → b ≤ k)
  | 0 => ⟨0, rfl, by omega, fun k hk => by
    have : k = 0 := by omega
    subst this
    exact ⟨Nat.le_refl _, fun _ => Nat.le_refl _⟩⟩
  | n + 1 => by
    obtain ⟨b, h1, h2, h3⟩ := be_char T on wo n
    have hs : beTo T on wo (n + 1 + 1) = if gB2 T on wo b < gB2 T on wo (n + 1) then (some (n + 1), gB2 T on wo (n + 1)) else (some b, gB2 T on wo b) := by
      show (match (beTo T on wo (n + 1)).1 with | none => _ | some b => if (beTo T on wo (n + 1)).2 < _ then _ else (some b, (beTo T on wo (n + 1)).2)) = _
      rw [h1]
      rfl
    rw [hs]
    by_cases c : gB2 T on wo b < gB2 T on wo (n + 1)
    · rw [if_pos c]
      refine ⟨n + 1, rfl, by omega, fun k hk => ?_⟩
      by_cases e : k = n + 1
      · rw [e]; exact ⟨Nat.le_refl _, fun _ => Nat.le_refl _⟩
      · have := h3 k (by omega)
        exact ⟨by omega, fun z => by omega⟩
    · rw [if_neg c]
      refine ⟨b, rfl, by omega, fun k hk => ?_⟩
      by_cases e : k = n + 1
      · rw [e]; exact ⟨by omega, fun _ => by omega⟩
      · exact h3 k (by omega)
/-- the best of the first i rows -/
def beS (T : Tx) (on wo : Nat) (fk : Nat → Nat) (i : Nat) (x2 x3 : Int32) : Prop := (i = 0 ∧ x2 = -1 ∧ x3 = -1) ∨ ∃ b, b < i ∧ x2 = nI (fk b) ∧ x3 = nI (gB2 T on wo (fk b)) ∧ ∀ a, a < i → gB2 T on wo (fk a) ≤ gB2 T on wo (fk b) ∧ (gB2 T on wo (fk a) = gB2 T on wo (fk b) → b ≤ a)
theorem c_most (h : cInv T on lg tn tb pl S) (h7 : ¬ gI S 8 8 = 0) : f_Bins_meetingMost S (nI (unS T lg)) = some (spBest T on lg) := by
  have hw := h.1
  have hlen := lwS_len hw on
  obtain ⟨-, m, fk, hm8, em, hSN, hrow⟩ := h.2.2.2.2.2.2.2.2.2.1 h7
  unfold f_Bins_meetingMost Bins_meetingMost_j61
  have key := wh_ix (f := un3 (Bins_meetingMost_l7 S (nI (unS T lg)))) (s := ((-1 : Int32), (-1 : Int32), (0 : Int32))) m (fun i q => q.2.2 = nI i ∧ beS T on (woS T lg) fk i q.1 q.2.1) (fun r => ∃ y, beS T on (woS T lg) fk m r y) ⟨rfl, Or.inl ⟨rfl, rfl, rfl⟩⟩ ?_ ?_
  · obtain ⟨r, h1, y, h2⟩ := key
    rw [h1, mb_bd]
    congr 1
    unfold spBest
    rcases h2 with ⟨e0, e1, -⟩ | ⟨b, hb, e1, -, hmax⟩
    · have : (lwS T on).length = 0 := by
        rcases Nat.eq_zero_or_pos (lwS T on).length with z | z
        · exact z
        · obtain ⟨i, hi, -⟩ := hSN.2.2 0 z
          omega
      rw [this, e1]
      rfl
    · have hfb := hSN.1 b hb
      obtain ⟨n, hn⟩ : ∃ n, (lwS T on).length = n + 1 := ⟨(lwS T on).length - 1, by omega⟩
      obtain ⟨c, hc1, hc2, hc3⟩ := be_char T on (woS T lg) n
      obtain ⟨i, hi, hle, heq⟩ := hSN.2.2 c (by omega)
      have g0 : gB2 T on (woS T lg) (fk i) = gB2 T on (woS T lg) c := by unfold gB2; rw [heq]
      have g1 := hmax i hi
      have g2 := hc3 (fk b) (by omega)
      have : fk b = c := by
        have l1 := g1.2 (by omega)
        have l2 := g2.2 (by omega)
        have l3 : fk b ≤ fk i := by
          rcases Nat.lt_or_ge b i with z | z
          · exact Nat.le_of_lt (hSN.2.1 b i z hi).1
          · have e : b = i := by omega
            rw [e]
            exact Nat.le_refl _
        omega
      rw [hn, hc1, e1, this]
      rfl
  · intro i q hi hI
    obtain ⟨x2, x3, x4⟩ := q
    obtain ⟨e1, hb⟩ := hI
    dsimp only at e1 hb
    subst e1
    obtain ⟨r1, r2⟩ := hrow i hi
    have hbi := bq_lt hw on (fk i)
    have hfi := hSN.1 i hi
    have hal : bq T on (fk i) &&& woS T lg < 256 := Nat.lt_of_le_of_lt Nat.and_le_left hbi
    have hgi : gB2 T on (woS T lg) (fk i) ≤ 8 := pcB_le _ 8
    left
    have head : Bins_meetingMost_l7 S (nI (unS T lg)) x2 x3 (nI i) = (if nI (gB2 T on (woS T lg) (fk i)) ≤ x3 then some (.inl (x2, x3, nI (i + 1))) else some (.inl (nI (fk i), nI (gB2 T on (woS T lg) (fk i)), nI (i + 1)))) := by
      unfold Bins_meetingMost_l7 Bins_meetingMost_j55_l7
      rw [em, if_neg (by rw [mb_le (by omega) (by omega)]; omega), l256, if_neg (by rw [mb_le (by omega) (by omega)]; omega), mb_in (show i < 256 by omega) (by decide), mb_gd, mb_cl (show i < 2147483648 by omega), r1, r2, nI_and, un_wo hw lg (show bq T on (fk i) < 2 ^ tNt T 2 from bN_ltp T 2 _), bc_I _ hal, mb_bd]
      simp only [mb_gd, mb_nm]
      rw [nI_1]
      rfl
    show ∃ t, Bins_meetingMost_l7 S (nI (unS T lg)) x2 x3 (nI i) = some (.inl t) ∧ _
    rw [head]
    rcases hb with ⟨e0, e1, e2⟩ | ⟨b, hb2, e1, e2, hmax⟩
    · subst e0 e1 e2
      rw [if_neg (fun z => absurd (Int32.lt_of_lt_of_le (Int32.lt_of_lt_of_le (show (-1 : Int32) < 0 by decide) (nI_pos' (by omega))) z) Int32.lt_irrefl)]
      refine ⟨_, rfl, rfl, Or.inr ⟨0, by omega, rfl, rfl, fun a ha => ?_⟩⟩
      have e : a = 0 := by omega
      subst e
      exact ⟨Nat.le_refl _, fun _ => Nat.le_refl _⟩
    · subst e1 e2
      have hgb : gB2 T on (woS T lg) (fk b) ≤ 8 := pcB_le _ 8
      by_cases c1 : gB2 T on (woS T lg) (fk i) ≤ gB2 T on (woS T lg) (fk b)
      · rw [if_pos (by rw [mb_le (by omega) (by omega)]; exact c1)]
        refine ⟨_, rfl, rfl, Or.inr ⟨b, by omega, rfl, rfl, fun a ha => ?_⟩⟩
        by_cases e : a = i
        · rw [e]; exact ⟨c1, fun _ => by omega⟩
        · exact hmax a (by omega)
      · rw [if_neg (by rw [mb_le (by omega) (by omega)]; exact c1)]
        refine ⟨_, rfl, rfl, Or.inr ⟨i, by omega, rfl, rfl, fun a ha => ?_⟩⟩
        by_cases e : a = i
        · rw [e]; exact ⟨Nat.le_refl _, fun _ => Nat.le_refl _⟩
        · have := hmax a (by omega)
          exact ⟨by omega, fun z => by omega⟩
  · intro q hI
    obtain ⟨x2, x3, x4⟩ := q
    obtain ⟨e1, hb⟩ := hI
    dsimp only at e1 hb
    subst e1
    refine ⟨x2, ?_, x3, hb⟩
    show Bins_meetingMost_l7 S (nI (unS T lg)) x2 x3 (nI m) = _
    unfold Bins_meetingMost_l7
    rw [em, if_pos (by rw [mb_le (by omega) (by omega)]; omega)]
theorem cc_best (h : cInv T on lg tn tb pl S) : ∃ S', f_Lots_best S = some (spBest T on lg, S') ∧ cInv T on lg tn tb pl S' ∧ Ph S + kMark S ≤ Ph S' := by
  obtain ⟨S1, h1, hi, hf, h14, h7, hp⟩ := c_lotsBins h
  unfold f_Lots_best
  rw [h1, mb_bd, c_unmet hi h14, mb_bd, c_most hi h7, mb_bd]
  exact ⟨S1, rfl, hi, hp⟩
