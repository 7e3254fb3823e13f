/-! the reference: what holds between calls, and its small calls -/
def TP (tn : Nat) (tb : Nat → Int32) (M : St) : Prop := tn ≤ 2000 ∧ gI M 0 2 = nI tn ∧ ∀ j, j < tn → gA M 0 1 j = tb j
def LG (T : Tx) (lg : List Nat) (M : St) : Prop := lg.length ≤ 200 ∧ gI M 0 58 = nI lg.length ∧ ∀ k x, lg[k]? = some x → gA M 0 59 k = nI x ∧ x < tIn T
def word1 (a : Int64) : Int64 := 37 * 0 + a
def word2 (a b : Int64) : Int64 := 37 * word1 a + b
def word3 (a b c : Int64) : Int64 := 37 * word2 a b + c
def word4 (a b c d : Int64) : Int64 := 37 * word3 a b c + d
def word5 (a b c d e : Int64) : Int64 := 37 * word4 a b c d + e
def keyL : List Int64 := [word5 6 9 5 12 4, word4 6 18 15 13, word2 20 15, word3 12 1 23, word4 19 15 6 20, word3 2 9 14, word4 14 5 24 20, word5 19 8 1 18 5, word2 9 6, word2 15 18, word3 1 14 4, word3 14 15 20, word3 15 12 4]
def KY (M : St) : Prop := (∀ k, k < 13 → gB M 0 9 k = keyL.getD k 0) ∧ ∃ n, n < 256 ∧ gI M 0 52 = nI n
def mInv (T : Tx) (on : Nat) (lg : List Nat) (tn : Nat) (tb : Nat → Int32) (pl : Int32) (M : St) : Prop := wfT T ∧ (∃ lv, MT lv T M ∧ HO lv T M ∧ TE lv T M) ∧ ON T on M ∧ BT T M ∧ SD T M ∧ SE T on M ∧ TP tn tb M ∧ gI M 0 17 = pl ∧ LG T lg M ∧ KY M
def ixN (x : Int32) (n : Nat) : Option Nat := if x < 0 then none else if nI n ≤ x then none else some x.toNatClampNeg
theorem ixN_s {x : Int32} {n j : Nat} (hn : n < 2147483648) (h : ixN x n = some j) : j < n ∧ x = nI j ∧ ¬ x < 0 ∧ ¬ nI n ≤ x := by
  unfold ixN at h
  by_cases c1 : x < 0
  · rw [if_pos c1] at h; cases h
  · rw [if_neg c1] at h
    by_cases c2 : nI n ≤ x
    · rw [if_pos c2] at h; cases h
    · rw [if_neg c2] at h
      rcases pk_ix x hn with q | q | ⟨i, hi, rfl⟩
      · exact absurd q c1
      · exact absurd q c2
      · rw [mb_cl (by omega)] at h
        cases h
        exact ⟨hi, rfl, c1, c2⟩
theorem ixN_n {x : Int32} {n : Nat} (h : ixN x n = none) : x < 0 ∨ (¬ x < 0 ∧ nI n ≤ x) := by
  unfold ixN at h
  by_cases c1 : x < 0
  · exact Or.inl c1
  · rw [if_neg c1] at h
    by_cases c2 : nI n ≤ x
    · exact Or.inr ⟨c1, c2⟩
    · rw [if_neg c2] at h; cases h
theorem lwS_len {T : Tx} (hw : wfT T) (on : Nat) : (lwS T on).length ≤ 32768 := Nat.le_trans (lw_len T on _ _) hw.2.2.1
theorem lwS_lt {T : Tx} {on k x : Nat} (h : (lwS T on)[k]? = some x) : x < tIn T := (lw_mem (List.mem_of_getElem? h)).1
def ixB (x : Int32) (n : Nat) : Int32 := match ixN x n with
  | none => 0
  | some _ => 1
theorem m_isNumber {T : Tx} {on : Nat} {M : St} (hs : SE T on M) (x : Int32) : f_Model_isNumber M x = some (ixB x (lwS T on).length) := by
  unfold f_Model_isNumber Model_isNumber_j16 Model_isNumber_j17 ixB ixN
  rw [hs.2.1]
  by_cases c1 : x < 0
  · rw [if_pos c1, if_pos c1, isB0, mb_gd]
  · rw [if_neg c1, if_neg c1]
    by_cases c2 : nI (lwS T on).length ≤ x
    · rw [if_pos c2, if_pos c2, isB0, mb_gd]
    · rw [if_neg c2, if_neg c2, isB1, mb_gd]
theorem m_isField {lv : Nat} {T : Tx} {M : St} (h : MT lv T M) (x : Int32) : f_Model_isField M x = some (ixB x (tNf T)) := by
  have hlv := h.1
  unfold f_Model_isField Model_isField_j21 Model_isField_j22 ixB ixN
  rw [h.2.1, mb_in (by omega) (by decide), mb_gd, mb_cl (by omega), h.2.2.1]
  by_cases c1 : x < 0
  · rw [if_pos c1, if_pos c1, isB0, mb_gd]
  · rw [if_neg c1, if_neg c1]
    by_cases c2 : nI (tNf T) ≤ x
    · rw [if_pos c2, if_pos c2, isB0, mb_gd]
    · rw [if_neg c2, if_neg c2, isB1, mb_gd]
theorem m_isBin {lv : Nat} {T : Tx} {M : St} (h : MT lv T M) (x : Int32) : f_Model_isBin M x = some (ixB x (tNt T 2)) := by
  unfold f_Model_isBin Model_isBin_j17 Model_isBin_j18 ixB ixN
  rw [show f_Model_tellsOf M 2 = some (nI (tNt T 2)) from m_tellsOf h (s := 2) (by decide), mb_bd]
  by_cases c1 : x < 0
  · rw [if_pos c1, if_pos c1, isB0, mb_gd]
  · rw [if_neg c1, if_neg c1]
    by_cases c2 : nI (tNt T 2) ≤ x
    · rw [if_pos c2, if_pos c2, isB0, mb_gd]
    · rw [if_neg c2, if_neg c2, isB1, mb_gd]
/-! what each call answers, told by the text alone -/
def spValue (T : Tx) (on : Nat) (x y : Int32) : Int32 := match ixN x (lwS T on).length with
  | none => -1
  | some k => match ixN y (tNf T) with
    | none => -1
    | some f => nI (tVa T ((lwS T on).getD k 0) f)
def spShare (T : Tx) (on : Nat) (x : Int32) : Int32 := match ixN x (lwS T on).length with
  | none => -1
  | some k => nI (shN T ((lwS T on).getD k 0))
def spLogged (T : Tx) (lg : List Nat) (x y : Int32) : Int32 := match ixN x lg.length with
  | none => -1
  | some k => match ixN y (tNf T) with
    | none => -1
    | some f => nI (tVa T (lg.getD k 0) f)
theorem get_some {l : List Nat} {k : Nat} (h : k < l.length) : l[k]? = some (l.getD k 0) := by
  rw [List.getD_eq_getElem?_getD, List.getElem?_eq_getElem h]
  rfl
section MO
variable {T : Tx} {on tn : Nat} {lg : List Nat} {tb : Nat → Int32} {pl : Int32} {M : St}
theorem mo_place (h : mInv T on lg tn tb pl M) : f_Model_place M = some pl := by
  unfold f_Model_place
  rw [h.2.2.2.2.2.2.2.1]
theorem mo_lawful (h : mInv T on lg tn tb pl M) : f_Model_lawful M = some (nI (lwS T on).length) := by
  unfold f_Model_lawful
  rw [h.2.2.2.2.2.1.2.1]
theorem mo_kept (h : mInv T on lg tn tb pl M) : f_Model_kept M = some (nI (keS T on)) := by
  unfold f_Model_kept
  rw [h.2.2.2.2.2.1.1]
theorem mo_sum (h : mInv T on lg tn tb pl M) : f_Model_sum M = some (nI (shSum T (lwS T on))) := by
  unfold f_Model_sum
  rw [h.2.2.2.2.2.1.2.2.1]
theorem mo_value (h : mInv T on lg tn tb pl M) (x y : Int32) : f_Model_value M x y = some (spValue T on x y) := by
  obtain ⟨hw, ⟨lv, hM, -, -⟩, -, -, hd, hs, -⟩ := h
  have n1 := hw.2.2.1
  have n6 := hw.1
  have hlen := lwS_len hw on
  unfold f_Model_value Model_value_j30 Model_value_j31 spValue
  rw [m_isNumber hs, mb_bd, m_isField hM, mb_bd]
  unfold ixB
  cases h1 : ixN x (lwS T on).length with
  | none => rfl
  | some k =>
    obtain ⟨k1, rfl, -, -⟩ := ixN_s (by omega) h1
    cases h2 : ixN y (tNf T) with
    | none => rfl
    | some f =>
      obtain ⟨f1, rfl, -, -⟩ := ixN_s (by omega) h2
      have hg := get_some k1
      have hx := lwS_lt hg
      dsimp only
      rw [if_neg (by decide), if_neg (by decide), mb_in (by omega) (by decide), mb_gd, mb_cl (by omega), (hs.2.2.2 k _ hg).1, m_valueOf hw hM hd (by omega) f1, mb_bd]
theorem mo_share (h : mInv T on lg tn tb pl M) (x : Int32) : f_Model_share M x = some (spShare T on x) := by
  obtain ⟨hw, -, -, -, -, hs, -⟩ := h
  have hlen := lwS_len hw on
  unfold f_Model_share Model_share_j18 spShare
  rw [m_isNumber hs, mb_bd]
  unfold ixB
  cases h1 : ixN x (lwS T on).length with
  | none => rfl
  | some k =>
    obtain ⟨k1, rfl, -, -⟩ := ixN_s (by omega) h1
    dsimp only
    rw [if_neg (by decide), mb_in (by omega) (by decide), mb_gd, mb_cl (by omega), (hs.2.2.2 k _ (get_some k1)).2]
theorem mo_logged (h : mInv T on lg tn tb pl M) (x y : Int32) : f_Model_logged M x y = some (spLogged T lg x y) := by
  obtain ⟨hw, ⟨lv, hM, -, -⟩, -, -, hd, hs, -, -, hl, -⟩ := h
  have n1 := hw.2.2.1
  have n6 := hw.1
  have hlen := hl.1
  unfold f_Model_logged Model_logged_j34 Model_logged_j35 spLogged
  rw [hl.2.1, m_isField hM, mb_bd]
  unfold ixB
  cases h1 : ixN x lg.length with
  | none =>
    rcases ixN_n h1 with q | ⟨q, r⟩
    · rw [if_pos q]
    · rw [if_neg q, if_pos r]
  | some k =>
    obtain ⟨k1, rfl, q, r⟩ := ixN_s (by omega) h1
    rw [if_neg q, if_neg r]
    cases h2 : ixN y (tNf T) with
    | none => rfl
    | some f =>
      obtain ⟨f1, rfl, -, -⟩ := ixN_s (by omega) h2
      obtain ⟨g1, g2⟩ := hl.2.2 k _ (get_some k1)
      dsimp only
      rw [if_neg (by decide), mb_in (by omega) (by decide), mb_gd, mb_cl (by omega), g1, m_valueOf hw hM hd (by omega) f1, mb_bd]
def spCount (T : Tx) (lg : List Nat) (tn : Nat) (x : Int32) : Int32 :=
  if x = 0 then nI (tNf T) else if x = 1 then nI (tNt T 0) else if x = 2 then nI (tNt T 1) else if x = 3 then nI (tNt T 2) else if x = 4 then nI (tNt T 3) else if x = 5 then nI (tNt T 4) else if x = 6 then nI (tIn T) else if x = 7 then nI lg.length else if x = 8 then nI tn else -1
theorem mo_count (h : mInv T on lg tn tb pl M) (x : Int32) : f_Model_count M x = some (spCount T lg tn x) := by
  obtain ⟨hw, ⟨lv, hM, -, -⟩, -, hb, hd, hs, ht, -, hl, -⟩ := h
  have hlv := hM.1
  unfold f_Model_count Model_count_j62 spCount
  rw [hM.2.1, mb_in (by omega) (by decide), mb_gd, mb_cl (by omega), hM.2.2.1, hb.1, hl.2.1, ht.2.1]
  by_cases c0 : x = 0
  · rw [if_pos c0, if_pos c0]
  rw [if_neg c0, if_neg c0]
  by_cases c1 : x = 1
  · rw [if_pos c1, if_pos c1, c1, show f_Model_tellsOf M (1 - 1) = some (nI (tNt T 0)) from m_tellsOf hM (s := 0) (by decide), mb_bd]
  rw [if_neg c1, if_neg c1]
  by_cases c2 : x = 2
  · rw [if_pos c2, if_pos c2, c2, show f_Model_tellsOf M (2 - 1) = some (nI (tNt T 1)) from m_tellsOf hM (s := 1) (by decide), mb_bd]
  rw [if_neg c2, if_neg c2]
  by_cases c3 : x = 3
  · rw [if_pos c3, if_pos c3, c3, show f_Model_tellsOf M (3 - 1) = some (nI (tNt T 2)) from m_tellsOf hM (s := 2) (by decide), mb_bd]
  rw [if_neg c3, if_neg c3]
  by_cases c4 : x = 4
  · rw [if_pos c4, if_pos c4, c4, show f_Model_tellsOf M (4 - 1) = some (nI (tNt T 3)) from m_tellsOf hM (s := 3) (by decide), mb_bd]
  rw [if_neg c4, if_neg c4]
  by_cases c5 : x = 5
  · rw [if_pos c5, if_pos c5, c5, show f_Model_tellsOf M (5 - 1) = some (nI (tNt T 4)) from m_tellsOf hM (s := 4) (by decide), mb_bd]
  rw [if_neg c5, if_neg c5]
  by_cases c6 : x = 6
  · rw [if_pos c6, if_pos c6]
  rw [if_neg c6, if_neg c6]
  by_cases c7 : x = 7
  · rw [if_pos c7, if_pos c7]
  rw [if_neg c7, if_neg c7]
  by_cases c8 : x = 8
  · rw [if_pos c8, if_pos c8]
  rw [if_neg c8, if_neg c8]
end MO
