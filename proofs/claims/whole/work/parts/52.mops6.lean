/-! the reference: bits, best, quarrel, alone -/
theorem m_bits {a : Nat} (ha : a < 256) : f_Model_bits (nI a) = some (nI (pcB a 8)) := by
  unfold f_Model_bits
  have key := wh_ix (f := un2 (Model_bits_l4 (nI a))) (s := ((0 : Int32), (0 : Int32))) 8 (fun k q => q.2 = nI k ∧ q.1 = nI (pcB a k)) (fun r => r = nI (pcB a 8)) ⟨rfl, rfl⟩ ?_ ?_
  · obtain ⟨r, h1, h2⟩ := key
    rw [h1, h2, mb_bd]
  · intro k q hk hI
    obtain ⟨x1, x2⟩ := q
    obtain ⟨e1, e2⟩ := hI
    dsimp only at e1 e2
    subst e1 e2
    left
    refine ⟨(nI (pcB a (k + 1)), nI (k + 1)), ?_, rfl, rfl⟩
    show Model_bits_l4 (nI a) (nI (pcB a k)) (nI k) = _
    unfold Model_bits_l4
    rw [l8, if_neg (by rw [mb_le (by omega) (by omega)]; omega), bit_V ha hk, nI_add, mb_nm, nI_1, mb_nm]
    rfl
  · intro q hI
    obtain ⟨x1, x2⟩ := q
    obtain ⟨e1, e2⟩ := hI
    dsimp only at e1 e2
    subst e1 e2
    refine ⟨nI (pcB a 8), ?_, rfl⟩
    show Model_bits_l4 (nI a) (nI (pcB a 8)) (nI 8) = _
    unfold Model_bits_l4
    rw [l8, if_pos (by rw [mb_le (by omega) (by omega)]; omega)]
/-- the best so far: its number, and how many bins it meets -/
def beTo (T : Tx) (on wo : Nat) : Nat → Option Nat × Nat
  | 0 => (none, 0)
  | k + 1 => match (beTo T on wo k).1 with
    | none => (some k, pcB (bN T 2 ((lwS T on).getD k 0) &&& wo) 8)
    | some b => if (beTo T on wo k).2 < pcB (bN T 2 ((lwS T on).getD k 0) &&& wo) 8 then (some k, pcB (bN T 2 ((lwS T on).getD k 0) &&& wo) 8) else (some b, (beTo T on wo k).2)
def oI (o : Option Nat) : Int32 := match o with
  | none => -1
  | some k => nI k
def spBest (T : Tx) (on : Nat) (lg : List Nat) : Int32 := oI (beTo T on (woS T lg) (lwS T on).length).1
theorem be_lt (T : Tx) (on wo : Nat) : ∀ k, (∀ b, (beTo T on wo k).1 = some b → b < k) ∧ (beTo T on wo k).2 ≤ 8
  | 0 => ⟨fun b h => (by cases h), Nat.zero_le 8⟩
  | k + 1 => by
    obtain ⟨h1, h2⟩ := be_lt T on wo k
    have p8 := pcB_le (bN T 2 ((lwS T on).getD k 0) &&& wo) 8
    show (∀ b, (match (beTo T on wo k).1 with | none => (some k, pcB (bN T 2 ((lwS T on).getD k 0) &&& wo) 8) | some b => if (beTo T on wo k).2 < pcB (bN T 2 ((lwS T on).getD k 0) &&& wo) 8 then (some k, pcB (bN T 2 ((lwS T on).getD k 0) &&& wo) 8) else (some b, (beTo T on wo k).2)).1 = some b → b < k + 1) ∧ (match (beTo T on wo k).1 with | none => (some k, pcB (bN T 2 ((lwS T on).getD k 0) &&& wo) 8) | some b => if (beTo T on wo k).2 < pcB (bN T 2 ((lwS T on).getD k 0) &&& wo) 8 then (some k, pcB (bN T 2 ((lwS T on).getD k 0) &&& wo) 8) else (some b, (beTo T on wo k).2)).2 ≤ 8
    cases hb : (beTo T on wo k).1 with
    | none => exact ⟨fun b h => by cases h; omega, p8⟩
    | some c =>
      have hc := h1 c hb
      dsimp only
      by_cases q : (beTo T on wo k).2 < pcB (bN T 2 ((lwS T on).getD k 0) &&& wo) 8
      · rw [if_pos q]; exact ⟨fun b h => by cases h; omega, p8⟩
      · rw [if_neg q]; exact ⟨fun b h => by cases h; omega, h2⟩
def sbS (s l : Nat) : Bool := Nat.beq (s &&& l) s
theorem sbS_I {s l : Nat} (hs : s < 256) (hl : l < 256) : (nI s &&& (nI l ^^^ (-1)) = 0) = (sbS s l = true) := by
  have e1 : (-1 : Int32) = nI 4294967295 := by decide
  have hle : s &&& (l ^^^ 4294967295) ≤ s := Nat.and_le_left
  rw [e1, nI_xor, nI_and, l0, mb_eq (by omega) (by omega)]
  unfold sbS
  refine propext ⟨fun h => ?_, fun h => ?_⟩
  · have : s &&& l = s := by
      apply Nat.eq_of_testBit_eq
      intro j
      have hj : (s &&& (l ^^^ 4294967295)).testBit j = false := by rw [h]; exact Nat.zero_testBit j
      rw [Nat.testBit_and, Nat.testBit_xor, show (4294967295 : Nat) = 2 ^ 32 - 1 from rfl, Nat.testBit_two_pow_sub_one] at hj
      rw [Nat.testBit_and]
      by_cases c : j < 32
      · rw [decide_eq_true c] at hj
        cases hsj : s.testBit j
        · rfl
        · rw [hsj] at hj
          cases hlj : l.testBit j
          · rw [hlj] at hj; cases hj
          · rfl
      · have : s.testBit j = false := Nat.testBit_lt_two_pow (Nat.lt_of_lt_of_le hs (Nat.le_trans (show 256 ≤ 2 ^ 32 by decide) (Nat.pow_le_pow_right (by decide) (by omega))))
        rw [this]
        rfl
    rw [this]
    exact Nat.beq_refl s
  · have hb : s &&& l = s := Nat.eq_of_beq_eq_true h
    apply Nat.eq_of_testBit_eq
    intro j
    rw [Nat.zero_testBit, Nat.testBit_and, Nat.testBit_xor, show (4294967295 : Nat) = 2 ^ 32 - 1 from rfl, Nat.testBit_two_pow_sub_one]
    have hj : (s &&& l).testBit j = s.testBit j := by rw [hb]
    rw [Nat.testBit_and] at hj
    by_cases c : j < 32
    · rw [decide_eq_true c]
      cases hsj : s.testBit j
      · rfl
      · rw [hsj] at hj
        cases hlj : l.testBit j
        · rw [hlj] at hj; cases hj
        · rfl
    · have : s.testBit j = false := Nat.testBit_lt_two_pow (Nat.lt_of_lt_of_le hs (Nat.le_trans (show 256 ≤ 2 ^ 32 by decide) (Nat.pow_le_pow_right (by decide) (by omega))))
      rw [this]
      rfl
def lowI (s b : Nat) : Int32 := (nI s &&& (nI s ^^^ nI b)) &&& (-(nI s ^^^ nI b))
def ahS (s b : Nat) : Bool := if pcB s 8 < pcB b 8 then true else if pcB s 8 = pcB b 8 then (if lowI s b = 0 then false else true) else false
def quTo (T : Tx) (on : Nat) : Nat → Nat
  | 0 => on
  | s + 1 => cond (sbS s on && ahS s (quTo T on s) && !anyS T s 0) s (quTo T on s)
def spQu (T : Tx) (on : Nat) : Int32 := cond (anyS T on 0) (-1) (nI (quTo T on 256))
theorem qu_lt {T : Tx} {on : Nat} (h : on < 256) : ∀ s, s ≤ 256 → quTo T on s < 256
  | 0, _ => h
  | s + 1, hs => by
    have ih := qu_lt (T := T) h s (by omega)
    show cond (sbS s on && ahS s (quTo T on s) && !anyS T s 0) s (quTo T on s) < 256
    cases (sbS s on && ahS s (quTo T on s) && !anyS T s 0)
    · exact ih
    · show s < 256; omega
section MO6
variable {T : Tx} {on tn : Nat} {lg : List Nat} {tb : Nat → Int32} {pl : Int32} {M : St}
theorem mo_best (h : mInv T on lg tn tb pl M) : f_Model_best M = some (spBest T on lg) := by
  obtain ⟨hw, ⟨lv, hM, -, -⟩, -, hb, -, hs, -, -, hl, -⟩ := h
  have hlen := lwS_len hw on
  have n1 := hw.2.2.1
  have n8 := hw.2.2.2.1 2 (by decide)
  have hwo : woS T lg < 256 := by
    have h1 := woK_lt T lg (tNt T 2)
    have h2 : 2 ^ tNt T 2 ≤ 2 ^ 8 := Nat.pow_le_pow_right (by decide) n8
    unfold woS
    omega
  unfold f_Model_best
  rw [m_without hw hM hb hl, mb_bd]
  have key := wh_ix (f := un3 (Model_best_l12 M (nI (woS T lg)))) (s := ((-1 : Int32), (0 : Int32), (0 : Int32))) (lwS T on).length (fun k q => q.2.2 = nI k ∧ q.1 = oI (beTo T on (woS T lg) k).1 ∧ q.2.1 = nI (beTo T on (woS T lg) k).2) (fun r => r = spBest T on lg) ⟨rfl, rfl, rfl⟩ ?_ ?_
  · obtain ⟨r, h1, h2⟩ := key
    rw [h1, h2, mb_bd]
  · intro k q hk hI
    obtain ⟨x2, x3, x4⟩ := q
    obtain ⟨e1, e2, e3⟩ := hI
    dsimp only at e1 e2 e3
    subst e1 e2 e3
    have hg := get_some hk
    have hx := lwS_lt hg
    have b2 := bN_lt hw (show (2 : Nat) < 5 by decide) ((lwS T on).getD k 0)
    have ba : bN T 2 ((lwS T on).getD k 0) &&& woS T lg < 256 := Nat.lt_of_le_of_lt Nat.and_le_left b2
    obtain ⟨z1, z2⟩ := be_lt T on (woS T lg) k
    have p8 := pcB_le (bN T 2 ((lwS T on).getD k 0) &&& woS T lg) 8
    have ek : beTo T on (woS T lg) (k + 1) = (match (beTo T on (woS T lg) k).1 with | none => (some k, pcB (bN T 2 ((lwS T on).getD k 0) &&& woS T lg) 8) | some b => if (beTo T on (woS T lg) k).2 < pcB (bN T 2 ((lwS T on).getD k 0) &&& woS T lg) 8 then (some k, pcB (bN T 2 ((lwS T on).getD k 0) &&& woS T lg) 8) else (some b, (beTo T on (woS T lg) k).2)) := rfl
    left
    refine ⟨(oI (beTo T on (woS T lg) (k + 1)).1, nI (beTo T on (woS T lg) (k + 1)).2, nI (k + 1)), ?_, rfl, rfl, rfl⟩
    show Model_best_l12 M (nI (woS T lg)) (oI (beTo T on (woS T lg) k).1) (nI (beTo T on (woS T lg) k).2) (nI k) = _
    unfold Model_best_l12 Model_best_j54_l12 Model_best_j60_l12
    rw [hs.2.1, if_neg (by rw [mb_le (by omega) (by omega)]; omega), mb_in (by omega) (by decide), mb_gd, mb_cl (by omega), (hs.2.2.2 k _ hg).1, mb_in (by omega) (by decide), mb_gd, mb_cl (by omega), (hb.2 _ hx).2.2, nI_and, m_bits ba, mb_bd, mb_nm, nI_1, mb_nm, ek]
    cases hc : (beTo T on (woS T lg) k).1 with
    | none =>
      rw [if_pos (by rfl)]
      rfl
    | some b =>
      have hbk := z1 b hc
      rw [if_neg (show ¬ oI (some b) = -1 from nI_m1 (by omega))]
      dsimp only
      by_cases c : (beTo T on (woS T lg) k).2 < pcB (bN T 2 ((lwS T on).getD k 0) &&& woS T lg) 8
      · rw [if_pos (by rw [mb_lt (by omega) (by omega)]; exact c), if_pos c]
        rfl
      · rw [if_neg (by rw [mb_lt (by omega) (by omega)]; exact c), if_neg c]
  · intro q hI
    obtain ⟨x2, x3, x4⟩ := q
    obtain ⟨e1, e2, e3⟩ := hI
    dsimp only at e1 e2 e3
    subst e1 e2 e3
    refine ⟨spBest T on lg, ?_, rfl⟩
    show Model_best_l12 M (nI (woS T lg)) _ _ (nI (lwS T on).length) = _
    unfold Model_best_l12
    rw [hs.2.1, if_pos (by rw [mb_le (by omega) (by omega)]; omega)]
    rfl
theorem mo_quarrel (h : mInv T on lg tn tb pl M) : f_Model_quarrel M = some (spQu T on) := by
  obtain ⟨hw, ⟨lv, hM, -, -⟩, ho, hb, -, hs, -⟩ := h
  have n8 := hw.2.2.2.1 0 (by decide)
  have o8 : on < 256 := by
    have : 2 ^ tNt T 0 ≤ 2 ^ 8 := Nat.pow_le_pow_right (by decide) n8
    have := ho.2
    omega
  have e0 : f_Model_isAny M (nI on) 0 = some (b2i (anyS T on 0)) := m_isAny hw hb o8 (show 0 < 256 by omega)
  unfold f_Model_quarrel spQu
  rw [m_laws hw hM ho, mb_bd, e0, mb_bd]
  cases ha : anyS T on 0 with
  | true => rw [if_neg (by decide)]; rfl
  | false =>
    rw [if_pos (by rfl)]
    have key := wh_ix (f := un2 (Model_quarrel_l20 M (nI on))) (s := (nI on, (0 : Int32))) 256 (fun s q => q.2 = nI s ∧ q.1 = nI (quTo T on s)) (fun r => r = nI (quTo T on 256)) ⟨rfl, rfl⟩ ?_ ?_
    · obtain ⟨r, h1, h2⟩ := key
      rw [h1, h2, mb_bd]
      rfl
    · intro s q hsn hI
      obtain ⟨x2, x3⟩ := q
      obtain ⟨e1, e2⟩ := hI
      dsimp only at e1 e2
      subst e1 e2
      have q8 := qu_lt (T := T) o8 s (by omega)
      have p1 := pcB_le s 8
      have p2 := pcB_le (quTo T on s) 8
      have ek : quTo T on (s + 1) = cond (sbS s on && ahS s (quTo T on s) && !anyS T s 0) s (quTo T on s) := rfl
      have es : f_Model_isAny M (nI s) 0 = some (b2i (anyS T s 0)) := m_isAny hw hb hsn (show 0 < 256 by omega)
      left
      refine ⟨(nI (quTo T on (s + 1)), nI (s + 1)), ?_, rfl, rfl⟩
      show Model_quarrel_l20 M (nI on) (nI (quTo T on s)) (nI s) = _
      unfold Model_quarrel_l20 Model_quarrel_j76_l20 Model_quarrel_j80_l20 Model_quarrel_j81_l20 Model_quarrel_j99_l20
      have e256 : (256 : Int32) = nI 256 := rfl
      rw [e256, if_neg (by rw [mb_le (by omega) (by omega)]; omega), ek]
      by_cases c1 : sbS s on = true
      · rw [if_pos (by rw [sbS_I hsn o8]; exact c1), c1, Bool.true_and, mb_nm, m_bits hsn, mb_bd, m_bits q8, mb_bd, mb_bd, mb_bd, es, mb_bd, nI_1, mb_nm, mb_nm]
        have go : ∀ z : Bool, z = ahS s (quTo T on s) → (if b2i z = 0 then (some (Sum.inl (nI (quTo T on s), nI (s + 1))) : Option ((Int32 × Int32) ⊕ Int32)) else (if b2i (anyS T s 0) = 0 then some (Sum.inl (nI s, nI (s + 1))) else some (Sum.inl (nI (quTo T on s), nI (s + 1))))) = some (Sum.inl (nI (cond (ahS s (quTo T on s) && !anyS T s 0) s (quTo T on s)), nI (s + 1))) := by
          intro z hz
          rw [← hz]
          cases z with
          | false => rw [if_pos (by rfl)]; rfl
          | true =>
            rw [if_neg (by decide)]
            cases anyS T s 0 with
            | false => rw [if_pos (by rfl)]; rfl
            | true => rw [if_neg (by decide)]; rfl
        by_cases c2 : pcB s 8 < pcB (quTo T on s) 8
        · rw [if_pos (by rw [mb_lt (by omega) (by omega)]; exact c2)]
          exact go true (by unfold ahS; rw [if_pos c2])
        · rw [if_neg (by rw [mb_lt (by omega) (by omega)]; exact c2)]
          by_cases c3 : pcB s 8 = pcB (quTo T on s) 8
          · rw [if_pos (by rw [c3])]
            by_cases c4 : lowI s (quTo T on s) = 0
            · rw [if_pos (show ((nI s &&& (nI s ^^^ nI (quTo T on s))) &&& (-(nI s ^^^ nI (quTo T on s)))) = 0 from c4)]
              exact go false (by unfold ahS; rw [if_neg c2, if_pos c3, if_pos c4])
            · rw [if_neg (show ¬ ((nI s &&& (nI s ^^^ nI (quTo T on s))) &&& (-(nI s ^^^ nI (quTo T on s)))) = 0 from c4)]
              exact go true (by unfold ahS; rw [if_neg c2, if_pos c3, if_neg c4])
          · rw [if_neg (by rw [mb_eq (by omega) (by omega)]; exact c3)]
            exact go false (by unfold ahS; rw [if_neg c2, if_neg c3])
      · rw [if_neg (by rw [sbS_I hsn o8]; exact c1), nI_1, mb_nm, Bool.eq_false_iff.mpr c1]
        rfl
    · intro q hI
      obtain ⟨x2, x3⟩ := q
      obtain ⟨e1, e2⟩ := hI
      dsimp only at e1 e2
      subst e1 e2
      refine ⟨nI (quTo T on 256), ?_, rfl⟩
      show Model_quarrel_l20 M (nI on) _ (nI 256) = _
      unfold Model_quarrel_l20
      have e256 : (256 : Int32) = nI 256 := rfl
      rw [e256, if_pos (by rw [mb_le (by omega) (by omega)]; omega)]
end MO6
