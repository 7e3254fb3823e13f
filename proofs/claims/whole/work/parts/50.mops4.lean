/-! the reference: turn, feed -/
section MO4
variable {T : Tx} {on tn : Nat} {lg : List Nat} {tb : Nat → Int32} {pl : Int32} {M : St}
theorem nI_xor (a b : Nat) : nI a ^^^ nI b = nI (a ^^^ b) := by
  apply Int32.toBitVec_inj.mp
  show (BitVec.ofNat 32 a) ^^^ (BitVec.ofNat 32 b) = BitVec.ofNat 32 (a ^^^ b)
  exact (BitVec.ofNat_xor ..).symm
/-- which laws are on, behind a turn -/
def spTurn (T : Tx) (on : Nat) (x b : Int32) : Int32 × Nat := match ixN x (tNt T 0) with
  | none => (0, on)
  | some k => if b2i (on.testBit k) = b then (0, on) else (1, on ^^^ 2 ^ k)
theorem bit_I1 {a k : Nat} (ha : a < 256) (hk : k < 8) : ((nI a >>> (nI k &&& 31)) &&& 1 = 1) = (a.testBit k = true) := by
  rw [pk_shrN (by omega) _ k (s_l8 k hk), l1, nI_and, Nat.and_one_is_mod, mb_eq (by omega) (by decide), Nat.testBit_eq_decide_div_mod_eq]
  exact propext ⟨fun h => decide_eq_true h, fun h => of_decide_eq_true h⟩
theorem mo_turn (h : mInv T on lg tn tb pl M) (x b : Int32) (hbb : isB b = true) : ∃ M', f_Model_turn M x b = some ((spTurn T on x b).1, M') ∧ mInv T (spTurn T on x b).2 lg tn tb pl M' := by
  obtain ⟨hw, ⟨lv, hM, hh, he⟩, ho, hb, hd, hs, ht, hp, hl, hky⟩ := id h
  have n8 := hw.2.2.2.1 0 (by decide)
  obtain ⟨n, hn, en⟩ := hky.2
  have hpw : 2 ^ tNt T 0 ≤ 256 := by
    have : 2 ^ tNt T 0 ≤ 2 ^ 8 := Nat.pow_le_pow_right (by decide) n8
    omega
  have eo : n &&& (2 ^ tNt T 0 - 1) = on := by
    have h1 := ho.1
    rw [en, nI_and] at h1
    have h2 : n &&& (2 ^ tNt T 0 - 1) < 256 := Nat.lt_of_le_of_lt Nat.and_le_left hn
    have h3 := ho.2
    rw [mb_eq (by omega) (by omega)] at h1
    exact h1
  unfold f_Model_turn Model_turn_j30 Model_turn_j34 spTurn
  rw [show f_Model_tellsOf M 0 = some (nI (tNt T 0)) from m_tellsOf hM (s := 0) (by decide), mb_bd]
  cases h1 : ixN x (tNt T 0) with
  | none =>
    refine ⟨M, ?_, h⟩
    rcases ixN_n h1 with q | ⟨q, r⟩
    · rw [if_pos q]
    · rw [if_neg q, if_pos r]
  | some k =>
    obtain ⟨k1, rfl, q, r⟩ := ixN_s (by omega) h1
    have tb1 : on.testBit k = n.testBit k := by
      rw [← eo, Nat.testBit_and, Nat.testBit_two_pow_sub_one, decide_eq_true k1, Bool.and_true]
    rw [if_neg q, if_neg r, en]
    have go : ∀ t0 : Int32, t0 = b2i (on.testBit k) → ∃ M', (if t0 = b then (some ((0 : Int32), M)) else (nm (pI M 0 52 (nI n ^^^ ((1 : Int32) <<< (nI k &&& 31)))) fun S_7 => bd (f_Model_settles S_7) fun S_9 => some ((1 : Int32), S_9))) = some ((if b2i (on.testBit k) = b then ((0 : Int32), on) else (1, on ^^^ 2 ^ k)).1, M') ∧ mInv T (if b2i (on.testBit k) = b then ((0 : Int32), on) else (1, on ^^^ 2 ^ k)).2 lg tn tb pl M' := by
      intro t0 et
      subst et
      by_cases c : b2i (on.testBit k) = b
      · rw [if_pos c, if_pos c]
        exact ⟨M, rfl, h⟩
      · rw [if_neg c, if_neg c, mb_nm, sh_bit k (by omega), nI_xor]
        have hx8 : n ^^^ 2 ^ k < 256 := Nat.xor_lt_two_pow (n := 8) hn (pow_lt8 (by omega))
        have a0 : agY [52] [] M (pI M 0 52 (nI (n ^^^ 2 ^ k))) := agY.pI M 52 _ (by decide)
        have aT0 : agT lv M _ := a0.toT (by decide) (by decide) lv
        have emask : (n ^^^ 2 ^ k) &&& (2 ^ tNt T 0 - 1) = on ^^^ 2 ^ k := by
          apply Nat.eq_of_testBit_eq
          intro j
          rw [← eo, Nat.testBit_and, Nat.testBit_xor, Nat.testBit_xor, Nat.testBit_and, Nat.testBit_two_pow_sub_one, Nat.testBit_two_pow]
          by_cases cj : j < tNt T 0
          · rw [decide_eq_true cj, Bool.and_true, Bool.and_true]
          · rw [decide_eq_false cj, Bool.and_false, Bool.and_false, decide_eq_false (show ¬ k = j by omega)]
            rfl
        have ho1 : ON T (on ^^^ 2 ^ k) (pI M 0 52 (nI (n ^^^ 2 ^ k))) := by
          refine ⟨?_, ?_⟩
          · rw [mb_II, if_pos ⟨rfl, rfl⟩, nI_and, emask]
          · rw [← emask]
            have : (n ^^^ 2 ^ k) &&& (2 ^ tNt T 0 - 1) ≤ 2 ^ tNt T 0 - 1 := Nat.and_le_right
            have : 0 < 2 ^ tNt T 0 := Nat.two_pow_pos _
            omega
        obtain ⟨M2, h2, a2, s2⟩ := m_settles hw (hM.ag hw aT0) (hh.ag aT0) (he.ag aT0) (hd.ag a0 (by decide)) (hb.ag a0 (by decide) ⟨by decide, by decide, by decide⟩) ho1
        have aT2 : agT lv M M2 := aT0.tr (a2.toT (by decide) (by decide) lv)
        refine ⟨M2, by rw [h2, mb_bd], ?_⟩
        have w0 : agY [52, 53, 54, 57] [49, 51, 55, 56] M (pI M 0 52 (nI (n ^^^ 2 ^ k))) := a0.wk (by decide) (by decide)
        have w2 : agY [52, 53, 54, 57] [49, 51, 55, 56] M M2 := w0.tr (a2.wk (by decide) (by decide))
        refine ⟨hw, ⟨lv, hM.ag hw aT2, hh.ag aT2, he.ag aT2⟩, ho1.ag a2 (by decide), hb.ag w2 (by decide) ⟨by decide, by decide, by decide⟩, hd.ag w2 (by decide), s2, ⟨ht.1, ?_, ?_⟩, ?_, ⟨hl.1, ?_, ?_⟩, ?_, ?_⟩
        · rw [w2.1 2 (by decide)]; exact ht.2.1
        · rw [w2.2.1 1 (by decide)]; exact ht.2.2
        · rw [w2.1 17 (by decide)]; exact hp
        · rw [w2.1 58 (by decide)]; exact hl.2.1
        · rw [w2.2.1 59 (by decide)]; exact hl.2.2
        · rw [w2.2.2.1]; exact hky.1
        · exact ⟨n ^^^ 2 ^ k, hx8, by rw [a2.1 52 (by decide), mb_II, if_pos ⟨rfl, rfl⟩]⟩
    dsimp only
    by_cases c1 : ((nI n >>> (nI k &&& 31)) &&& 1) = 1
    · rw [if_pos c1]
      rw [bit_I1 hn (by omega)] at c1
      exact go 1 (by rw [tb1, c1]; rfl)
    · rw [if_neg c1]
      rw [bit_I1 hn (by omega)] at c1
      exact go 0 (by rw [tb1, Bool.eq_false_iff.mpr c1]; rfl)
/-! feeding -/
def sh4 : Nat → Int32
  | 0 => 24
  | 1 => 16
  | 2 => 8
  | 3 => 0
  | _ => -8
theorem sh4_s : ∀ i, i < 4 → sh4 i + (-8) = sh4 (i + 1) ∧ ¬ sh4 i < 0 := by decide
def byt (w k : Int32) : Int32 := (w >>> (k &&& 31)).toInt8.toInt32
def tbP (tb : Nat → Int32) (tn : Nat) (w : Int32) : Nat → Int32 := fun j => if j < tn then tb j else byt w (sh4 (j - tn))
theorem m_put (ht : TP tn tb M) (h4 : tn + 4 ≤ 2000) (w : Int32) : ∃ M', f_Model_put M w = some M' ∧ agY [2] [1] M M' ∧ TP (tn + 4) (tbP tb tn w) M' := by
  unfold f_Model_put
  have key := wh_ix (f := un2 (Model_put_l3 w)) (s := (M, (24 : Int32))) 4 (fun i q => q.2 = sh4 i ∧ agY [2] [1] M q.1 ∧ TP (tn + i) (tbP tb tn w) q.1) (fun M' => agY [2] [1] M M' ∧ TP (tn + 4) (tbP tb tn w) M') ⟨rfl, agY.rf M, by have := ht.1; omega, ht.2.1, fun j hj => by unfold tbP; rw [if_pos (by omega)]; exact ht.2.2 j (by omega)⟩ ?_ ?_
  · obtain ⟨M', h1, h2, h3⟩ := key
    exact ⟨M', by rw [h1, mb_bd], h2, h3⟩
  · intro i q hi hI
    obtain ⟨M1, x2⟩ := q
    obtain ⟨e1, a1, t0, t1, t2⟩ := hI
    dsimp only at e1 a1 t0 t1 t2
    subst e1
    obtain ⟨s1, s2⟩ := sh4_s i hi
    left
    refine ⟨(pI (pA M1 0 1 (tn + i) (byt w (sh4 i))) 0 2 (nI (tn + i + 1)), sh4 (i + 1)), ?_, rfl, a1.tr ((agY.pA M1 1 _ _ (by decide)).tr (agY.pI _ 2 _ (by decide))), by omega, ?_, ?_⟩
    · show Model_put_l3 w M1 (sh4 i) = _
      unfold Model_put_l3
      rw [if_neg s2, t1, mb_in (by omega) (by decide), mb_gd, mb_cl (by omega), pk_vb, mb_nm, mb_IA, t1, nI_1, mb_nm, s1, mb_nm]
      rfl
    · rw [mb_II, if_pos ⟨rfl, rfl⟩]; rfl
    · intro j hj
      show gA (pA M1 0 1 (tn + i) (byt w (sh4 i))) 0 1 j = _
      rw [mb_AA]
      by_cases e : j = tn + i
      · rw [if_pos ⟨rfl, rfl, e⟩, e]
        unfold tbP
        rw [if_neg (by omega), show tn + i - tn = i by omega]
      · rw [if_neg (fun z => e z.2.2)]
        exact t2 j (by omega)
  · intro q hI
    obtain ⟨M1, x2⟩ := q
    obtain ⟨e1, a1, t1⟩ := hI
    dsimp only at e1 a1 t1
    subst e1
    refine ⟨M1, ?_, a1, t1⟩
    show Model_put_l3 w M1 (sh4 4) = _
    unfold Model_put_l3
    rw [if_pos (by decide)]
def spFeed (tn : Nat) (tb : Nat → Int32) (a b c d e : Int32) : Int32 × Nat × (Nat → Int32) := if tn + 20 ≤ 2000 then (nI (tn + 20), tn + 20, tbP (tbP (tbP (tbP (tbP tb tn a) (tn + 4) b) (tn + 8) c) (tn + 12) d) (tn + 16) e) else (-1, tn, tb)
theorem mo_feed (h : mInv T on lg tn tb pl M) (a b c d e : Int32) : ∃ M', f_Model_feed M a b c d e = some ((spFeed tn tb a b c d e).1, M') ∧ mInv T on lg (spFeed tn tb a b c d e).2.1 (spFeed tn tb a b c d e).2.2 pl M' := by
  have ht := h.2.2.2.2.2.2.1
  have htn := ht.1
  unfold f_Model_feed spFeed
  rw [ht.2.1, show (20 : Int32) = nI 20 from rfl, nI_add, show (2000 : Int32) = nI 2000 from rfl]
  by_cases cc : tn + 20 ≤ 2000
  · rw [if_pos cc, if_pos (by rw [mb_le (by omega) (by omega)]; exact cc)]
    obtain ⟨M1, h1, a1, t1⟩ := m_put ht (by omega) a
    obtain ⟨M2, h2, a2, t2⟩ := m_put t1 (by omega) b
    obtain ⟨M3, h3, a3, t3⟩ := m_put t2 (by omega) c
    obtain ⟨M4, h4, a4, t4⟩ := m_put t3 (by omega) d
    obtain ⟨M5, h5, a5, t5⟩ := m_put t4 (by omega) e
    rw [h1, mb_bd, h2, mb_bd, h3, mb_bd, h4, mb_bd, h5, mb_bd, t5.2.1]
    exact ⟨M5, rfl, h.ag (a1.tr (a2.tr (a3.tr (a4.tr a5)))) (by decide) (by decide) t5⟩
  · rw [if_neg cc, if_neg (by rw [mb_le (by omega) (by omega)]; exact cc)]
    exact ⟨M, rfl, h⟩
end MO4
