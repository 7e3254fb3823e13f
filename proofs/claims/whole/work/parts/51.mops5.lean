/-! the reference: bins, hits, alone -/
def cN (p : Nat → Bool) (l : List Nat) : Nat := (l.filter p).length
theorem cN_le (p : Nat → Bool) (l : List Nat) : cN p l ≤ l.length := List.length_filter_le p l
theorem cN_take (p : Nat → Bool) {l : List Nat} {k x : Nat} (h : l[k]? = some x) : cN p (l.take (k + 1)) = cN p (l.take k) + cond (p x) 1 0 := by
  unfold cN
  rw [List.take_succ, h, List.filter_append, List.length_append]
  congr 1
  show (List.filter p [x]).length = _
  cases hp : p x with
  | true => rw [List.filter_cons_of_pos hp]; rfl
  | false => rw [List.filter_cons_of_neg (by rw [hp]; decide)]; rfl
theorem cN_tle (p : Nat → Bool) (l : List Nat) (k : Nat) : cN p (l.take k) ≤ l.length := Nat.le_trans (cN_le p _) (by rw [List.length_take]; omega)
def spMeet (T : Tx) (on set : Nat) : Nat := cN (fun i => has (bN T 2 i) set) (lwS T on)
theorem m_meeting {T : Tx} {on : Nat} {M : St} (hw : wfT T) (hb : BT T M) (hs : SE T on M) {set : Nat} (hset : set < 256) : f_Model_meeting M (nI set) = some (nI (spMeet T on set)) := by
  have hlen := lwS_len hw on
  have n1 := hw.2.2.1
  unfold f_Model_meeting
  have key := wh_ix (f := un2 (Model_meeting_l4 M (nI set))) (s := ((0 : Int32), (0 : Int32))) (lwS T on).length (fun k q => q.2 = nI k ∧ q.1 = nI (cN (fun i => has (bN T 2 i) set) ((lwS T on).take k))) (fun r => r = nI (spMeet T on set)) ⟨rfl, by rw [List.take_zero]; rfl⟩ ?_ ?_
  · obtain ⟨r, h1, h2⟩ := key
    rw [h1, h2, mb_bd]
  · intro k q hk hI
    obtain ⟨x2, x3⟩ := q
    obtain ⟨e1, e2⟩ := hI
    dsimp only at e1 e2
    subst e1 e2
    have hg := get_some hk
    have hx := lwS_lt hg
    have b2 := bN_lt hw (show (2 : Nat) < 5 by decide) ((lwS T on).getD k 0)
    left
    refine ⟨(nI (cN (fun i => has (bN T 2 i) set) ((lwS T on).take (k + 1))), nI (k + 1)), ?_, rfl, rfl⟩
    show Model_meeting_l4 M (nI set) (nI (cN (fun i => has (bN T 2 i) set) ((lwS T on).take k))) (nI k) = _
    unfold Model_meeting_l4 Model_meeting_j32_l4
    rw [hs.2.1, if_neg (by rw [mb_le (by omega) (by omega)]; omega), mb_in (by omega) (by decide), mb_gd, mb_cl (by omega), (hs.2.2.2 k _ hg).1, mb_in (by omega) (by decide), mb_gd, mb_cl (by omega), (hb.2 _ hx).2.2, cN_take _ hg]
    by_cases c : has (bN T 2 ((lwS T on).getD k 0)) set = true
    · rw [if_pos (by rw [has_I b2 hset]; exact c), mb_nm, mb_nm, nI_1, nI_1, c]
      rfl
    · rw [if_neg (by rw [has_I b2 hset]; exact c), mb_nm, nI_1, Bool.eq_false_iff.mpr c]
      rfl
  · intro q hI
    obtain ⟨x2, x3⟩ := q
    obtain ⟨e1, e2⟩ := hI
    dsimp only at e1 e2
    subst e1 e2
    refine ⟨nI (spMeet T on set), ?_, rfl⟩
    show Model_meeting_l4 M (nI set) _ (nI (lwS T on).length) = _
    unfold Model_meeting_l4
    rw [hs.2.1, if_pos (by rw [mb_le (by omega) (by omega)]; omega), List.take_length]
    rfl
def spMeets (T : Tx) (on : Nat) (x : Int32) : Int32 := match ixN x (tNt T 2) with
  | none => -1
  | some b => nI (spMeet T on (2 ^ b))
def spCross (T : Tx) (on : Nat) (x y : Int32) : Int32 := match ixN x (tNt T 2) with
  | none => -1
  | some a => match ixN y (tNt T 2) with
    | none => -1
    | some b => nI (spMeet T on (2 ^ a ||| 2 ^ b))
/-- how many of the log meet a bin -/
def hiN (T : Tx) (lg : List Nat) (b : Nat) : Nat := cN (fun i => (bN T 2 i).testBit b) lg
def spHits (T : Tx) (lg : List Nat) (x : Int32) : Int32 := match ixN x (tNt T 2) with
  | none => -1
  | some b => nI (hiN T lg b)
theorem bit_V {a k : Nat} (ha : a < 256) (hk : k < 8) : (nI a >>> (nI k &&& 31)) &&& 1 = nI (cond (a.testBit k) 1 0) := by
  rw [pk_shrN (by omega) _ k (s_l8 k hk), l1, nI_and, Nat.and_one_is_mod, Nat.testBit_eq_decide_div_mod_eq]
  have h2 : a / 2 ^ k % 2 < 2 := Nat.mod_lt _ (by decide)
  by_cases c : a / 2 ^ k % 2 = 1
  · rw [decide_eq_true c, c]; rfl
  · rw [decide_eq_false c, show a / 2 ^ k % 2 = 0 by omega]; rfl
theorem m_hitsOf {T : Tx} {M : St} {lg : List Nat} (hw : wfT T) (hb : BT T M) (hl : LG T lg M) {b : Nat} (hbn : b < 8) : f_Model_hitsOf M (nI b) = some (nI (hiN T lg b)) := by
  have hl1 := hl.1
  have n1 := hw.2.2.1
  unfold f_Model_hitsOf
  have key := wh_ix (f := un2 (Model_hitsOf_l4 M (nI b))) (s := ((0 : Int32), (0 : Int32))) lg.length (fun k q => q.2 = nI k ∧ q.1 = nI (cN (fun i => (bN T 2 i).testBit b) (lg.take k))) (fun r => r = nI (hiN T lg b)) ⟨rfl, by rw [List.take_zero]; rfl⟩ ?_ ?_
  · obtain ⟨r, h1, h2⟩ := key
    rw [h1, h2, mb_bd]
  · intro k q hk hI
    obtain ⟨x2, x3⟩ := q
    obtain ⟨e1, e2⟩ := hI
    dsimp only at e1 e2
    subst e1 e2
    have hg := get_some hk
    obtain ⟨g1, hx⟩ := hl.2.2 k _ hg
    have b2 := bN_lt hw (show (2 : Nat) < 5 by decide) (lg.getD k 0)
    left
    refine ⟨(nI (cN (fun i => (bN T 2 i).testBit b) (lg.take (k + 1))), nI (k + 1)), ?_, rfl, rfl⟩
    show Model_hitsOf_l4 M (nI b) (nI (cN (fun i => (bN T 2 i).testBit b) (lg.take k))) (nI k) = _
    unfold Model_hitsOf_l4
    rw [hl.2.1, if_neg (by rw [mb_le (by omega) (by omega)]; omega), mb_in (by omega) (by decide), mb_gd, mb_cl (by omega), g1, mb_in (by omega) (by decide), mb_gd, mb_cl (by omega), (hb.2 _ hx).2.2, bit_V b2 hbn, nI_add, mb_nm, nI_1, mb_nm, cN_take _ hg]
  · intro q hI
    obtain ⟨x2, x3⟩ := q
    obtain ⟨e1, e2⟩ := hI
    dsimp only at e1 e2
    subst e1 e2
    refine ⟨nI (hiN T lg b), ?_, rfl⟩
    show Model_hitsOf_l4 M (nI b) _ (nI lg.length) = _
    unfold Model_hitsOf_l4
    rw [hl.2.1, if_pos (by rw [mb_le (by omega) (by omega)]; omega), List.take_length]
    rfl
/-- the bins without hits -/
def woK (T : Tx) (lg : List Nat) : Nat → Nat
  | 0 => 0
  | b + 1 => woK T lg b + cond (Nat.beq (hiN T lg b) 0) (2 ^ b) 0
theorem woK_lt (T : Tx) (lg : List Nat) : ∀ b, woK T lg b < 2 ^ b
  | 0 => Nat.zero_lt_one
  | b + 1 => by
    have h := woK_lt T lg b
    have e : 2 ^ (b + 1) = 2 ^ b + 2 ^ b := by rw [Nat.pow_succ]; omega
    show woK T lg b + cond (Nat.beq (hiN T lg b) 0) (2 ^ b) 0 < 2 ^ (b + 1)
    rw [e]
    cases Nat.beq (hiN T lg b) 0
    · show woK T lg b + 0 < _; omega
    · show woK T lg b + 2 ^ b < _; omega
def woS (T : Tx) (lg : List Nat) : Nat := woK T lg (tNt T 2)
theorem m_without {lv : Nat} {T : Tx} {M : St} {lg : List Nat} (hw : wfT T) (hM : MT lv T M) (hb : BT T M) (hl : LG T lg M) : f_Model_without M = some (nI (woS T lg)) := by
  have n8 := hw.2.2.2.1 2 (by decide)
  have hl1 := hl.1
  unfold f_Model_without
  have e2' : f_Model_tellsOf M 2 = some (nI (tNt T 2)) := m_tellsOf hM (s := 2) (by decide)
  have key := wh_ix (f := un2 (Model_without_l4 M)) (s := ((0 : Int32), (0 : Int32))) (tNt T 2) (fun k q => q.2 = nI k ∧ q.1 = nI (woK T lg k)) (fun r => r = nI (woS T lg)) ⟨rfl, rfl⟩ ?_ ?_
  · obtain ⟨r, h1, h2⟩ := key
    rw [h1, h2, mb_bd]
  · intro k q hk hI
    obtain ⟨x1, x2⟩ := q
    obtain ⟨e1, e2⟩ := hI
    dsimp only at e1 e2
    subst e1 e2
    have hh : hiN T lg k ≤ 200 := Nat.le_trans (cN_le _ _) hl1
    have ek : woK T lg (k + 1) = woK T lg k + cond (Nat.beq (hiN T lg k) 0) (2 ^ k) 0 := rfl
    left
    refine ⟨(nI (woK T lg (k + 1)), nI (k + 1)), ?_, rfl, rfl⟩
    show Model_without_l4 M (nI (woK T lg k)) (nI k) = _
    unfold Model_without_l4 Model_without_j27_l4
    rw [e2', mb_bd, if_neg (by rw [mb_le (by omega) (by omega)]; omega), m_hitsOf hw hb hl (by omega), mb_bd, ek]
    by_cases c : hiN T lg k = 0
    · rw [if_pos (by rw [c]; rfl), mb_nm, or_bit (woK_lt T lg k) (by omega), mb_nm, nI_1, c]
      rfl
    · rw [if_neg (by rw [l0, mb_eq (by omega) (by omega)]; exact c), mb_nm, nI_1]
      have : Nat.beq (hiN T lg k) 0 = false := by
        cases hz : Nat.beq (hiN T lg k) 0 with
        | false => rfl
        | true => exact absurd (Nat.eq_of_beq_eq_true hz) c
      rw [this]
      rfl
  · intro q hI
    obtain ⟨x1, x2⟩ := q
    obtain ⟨e1, e2⟩ := hI
    dsimp only at e1 e2
    subst e1 e2
    refine ⟨nI (woS T lg), ?_, rfl⟩
    show Model_without_l4 M _ (nI (tNt T 2)) = _
    unfold Model_without_l4
    rw [e2', mb_bd, if_pos (by rw [mb_le (by omega) (by omega)]; omega)]
    rfl
section MO5
variable {T : Tx} {on tn : Nat} {lg : List Nat} {tb : Nat → Int32} {pl : Int32} {M : St}
theorem mo_meets (h : mInv T on lg tn tb pl M) (x : Int32) : f_Model_meets M x = some (spMeets T on x) := by
  obtain ⟨hw, ⟨lv, hM, -, -⟩, -, hb, -, hs, -⟩ := h
  have n8 := hw.2.2.2.1 2 (by decide)
  unfold f_Model_meets Model_meets_j19 spMeets
  rw [m_isBin hM, mb_bd]
  unfold ixB
  cases h1 : ixN x (tNt T 2) with
  | none => rfl
  | some k =>
    obtain ⟨k1, rfl, -, -⟩ := ixN_s (by omega) h1
    dsimp only
    rw [if_neg (by decide), sh_bit k (by omega), m_meeting hw hb hs (pow_lt8 (by omega)), mb_bd]
theorem mo_cross (h : mInv T on lg tn tb pl M) (x y : Int32) : f_Model_cross M x y = some (spCross T on x y) := by
  obtain ⟨hw, ⟨lv, hM, -, -⟩, -, hb, -, hs, -⟩ := h
  have n8 := hw.2.2.2.1 2 (by decide)
  unfold f_Model_cross Model_cross_j30 Model_cross_j31 spCross
  rw [m_isBin hM, mb_bd, m_isBin hM, mb_bd]
  unfold ixB
  cases h1 : ixN x (tNt T 2) with
  | none => rfl
  | some k =>
    obtain ⟨k1, rfl, -, -⟩ := ixN_s (by omega) h1
    cases h2 : ixN y (tNt T 2) with
    | none => rfl
    | some j =>
      obtain ⟨j1, rfl, -, -⟩ := ixN_s (by omega) h2
      dsimp only
      rw [if_neg (by decide), if_neg (by decide), sh_bit k (by omega), sh_bit j (by omega), nI_or, m_meeting hw hb hs (or_lt8 (pow_lt8 (by omega)) (pow_lt8 (by omega))), mb_bd]
theorem mo_hits (h : mInv T on lg tn tb pl M) (x : Int32) : f_Model_hits M x = some (spHits T lg x) := by
  obtain ⟨hw, ⟨lv, hM, -, -⟩, -, hb, -, -, -, -, hl, -⟩ := h
  have n8 := hw.2.2.2.1 2 (by decide)
  unfold f_Model_hits Model_hits_j17 spHits
  rw [m_isBin hM, mb_bd]
  unfold ixB
  cases h1 : ixN x (tNt T 2) with
  | none => rfl
  | some k =>
    obtain ⟨k1, rfl, -, -⟩ := ixN_s (by omega) h1
    dsimp only
    rw [if_neg (by decide), m_hitsOf hw hb hl (by omega), mb_bd]
end MO5
