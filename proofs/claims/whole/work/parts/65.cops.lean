/-! the class: count, turn, feed, back (bt, s_l, s_u, b_ushr, b_sshr are pasted out of the given BITS family) -/
def bt (x : Int32) (i : Nat) : Bool := x.toBitVec.getLsbD i
theorem s_l : ∀ n, n < 32 → ((nI n &&& 31).toBitVec.smod 32).toNat = n := by decide +kernel
theorem s_u : ∀ n, n < 32 → (((nI n).toUInt32 &&& Int32.toUInt32 31).toBitVec % 32).toNat = n := by decide +kernel
theorem b_ushr (n : Nat) (hn : n < 32) (x : Int32) (i : Nat) : bt ((x.toUInt32 >>> ((nI n).toUInt32 &&& Int32.toUInt32 31)).toInt32) i = bt x (n + i) := by
  show (x.toUInt32 >>> ((nI n).toUInt32 &&& Int32.toUInt32 31)).toBitVec.getLsbD i = x.toUInt32.toBitVec.getLsbD (n + i)
  rw [UInt32.toBitVec_shiftRight]
  show (x.toUInt32.toBitVec >>> (((nI n).toUInt32 &&& Int32.toUInt32 31).toBitVec % 32).toNat).getLsbD i = _
  rw [s_u n hn, BitVec.getLsbD_ushiftRight]
theorem b_sshr (n : Nat) (hn : n < 32) (x : Int32) {i : Nat} (hi : i < 32) : bt (x >>> (nI n &&& 31)) i = if n + i < 32 then bt x (n + i) else bt x 31 := by
  unfold bt
  rw [Int32.toBitVec_shiftRight]
  show (x.toBitVec.sshiftRight ((nI n &&& 31).toBitVec.smod 32).toNat).getLsbD i = _
  rw [s_l n hn, BitVec.getLsbD_sshiftRight, BitVec.msb_eq_getLsbD_last]
  simp [hi]
theorem byt8 {x y : Int32} (h : ∀ i, i < 8 → bt x i = bt y i) : x.toInt8.toInt32 = y.toInt8.toInt32 := by
  congr 1
  apply Int8.toBitVec_inj.mp
  show x.toBitVec.signExtend 8 = y.toBitVec.signExtend 8
  apply BitVec.eq_of_getLsbD_eq
  intro i hi
  rw [BitVec.getLsbD_signExtend, BitVec.getLsbD_signExtend, if_pos (by omega), if_pos (by omega)]
  have := h i hi
  unfold bt at this
  rw [this]
def sh4n : Nat → Nat
  | 0 => 24
  | 1 => 16
  | 2 => 8
  | _ => 0
theorem sh4_n : ∀ i, i < 4 → sh4 i = nI (sh4n i) ∧ sh4n i ≤ 24 := by decide
theorem byt_eq (w : Int32) {i : Nat} (hi : i < 4) : (w.toUInt32 >>> ((sh4 i).toUInt32 &&& Int32.toUInt32 31)).toInt32.toInt8.toInt32 = byt w (sh4 i) := by
  obtain ⟨e, hl⟩ := sh4_n i hi
  unfold byt
  rw [e]
  refine byt8 (fun j hj => ?_)
  rw [b_ushr _ (by omega), b_sshr _ (by omega) _ (by omega), if_pos (by omega)]
variable {T : Tx} {on tn : Nat} {lg : List Nat} {tb : Nat → Int32} {pl : Int32} {S S' : St}
theorem cc_count (h : cInv T on lg tn tb pl S) (x : Int32) : f_Lots_count S x = some (spCount T lg tn x) := by
  obtain ⟨hw, hT, hK, -, -, -, -, -, hL, -⟩ := h
  have t0 := c_toldOf hK.1 (s := 0) (by decide)
  have t1 := c_toldOf hK.1 (s := 1) (by decide)
  have t2 := c_toldOf hK.1 (s := 2) (by decide)
  have t3 := c_toldOf hK.1 (s := 3) (by decide)
  have t4 := c_toldOf hK.1 (s := 4) (by decide)
  unfold f_Lots_count spCount
  rw [show (0 : Int32) = nI 0 from rfl, show (1 : Int32) = nI 1 from rfl, show (2 : Int32) = nI 2 from rfl, show (3 : Int32) = nI 3 from rfl, show (4 : Int32) = nI 4 from rfl, t0, t1, t2, t3, t4, mb_bd, mb_bd, mb_bd, mb_bd, mb_bd, hK.1.1, hK.1.2.1, hL.2.1, hT.2.1]
  by_cases c0 : x = nI 0
  · rw [if_pos c0, if_pos c0]
  rw [if_neg c0, if_neg c0]
  by_cases c1 : x = nI 1
  · rw [if_pos c1, if_pos c1]
  rw [if_neg c1, if_neg c1]
  by_cases c2 : x = nI 2
  · rw [if_pos c2, if_pos c2]
  rw [if_neg c2, if_neg c2]
  by_cases c3 : x = nI 3
  · rw [if_pos c3, if_pos c3]
  rw [if_neg c3, if_neg c3]
  by_cases c4 : x = nI 4
  · rw [if_pos c4, if_pos c4]
  rw [if_neg c4, if_neg c4]
  by_cases c5 : x = 5
  · rw [if_pos c5, if_pos c5]
  rw [if_neg c5, if_neg c5]
  by_cases c6 : x = 6
  · rw [if_pos c6, if_pos c6]
  rw [if_neg c6, if_neg c6]
  by_cases c7 : x = 7
  · rw [if_pos c7, if_pos c7]
  rw [if_neg c7, if_neg c7]
  by_cases c8 : x = 8
  · rw [if_pos c8, if_pos c8]
  rw [if_neg c8, if_neg c8]
theorem c_isOn (hw : wfT T) (hF : CF T on S) {k : Nat} (hk : k < 8) : f_Chart_isOn S (nI k) = some (b2i (on.testBit k)) := by
  have ho := on_lt hw hF.2.1
  unfold f_Chart_isOn Chart_isOn_j16
  rw [hF.1]
  by_cases c : on.testBit k = false
  · rw [if_pos (by rw [bit_I ho hk]; exact c), c]
    rfl
  · rw [if_neg (by rw [bit_I ho hk]; exact c)]
    have : on.testBit k = true := by
      cases h : on.testBit k with
      | true => rfl
      | false => exact absurd h c
    rw [this]
    rfl
theorem cc_turn (h : cInv T on lg tn tb pl S) (x b : Int32) : ∃ S', f_Lots_turn S x b = some ((spTurn T on x b).1, S') ∧ cInv T (spTurn T on x b).2 lg tn tb pl S' ∧ Ph S ≤ Ph S' := by
  obtain ⟨hw, hT, hK, hN, hM, hF, hS, hU, hL, hX, hY, hZ, hC⟩ := id h
  have n8 := hw.2.2.2.1 0 (by decide)
  have ho := on_lt hw hF.2.1
  unfold f_Lots_turn Lots_turn_j27 spTurn
  rw [show f_Book_has S 0 x = _ from c_has hK.1 (s := 0) (by decide) x, mb_bd]
  unfold ixB
  cases hx : ixN x (tNt T 0) with
  | none =>
    dsimp only
    rw [if_pos rfl]
    exact ⟨S, rfl, h, Nat.le_refl _⟩
  | some k =>
    obtain ⟨hk, rfl, -, -⟩ := ixN_s (by omega) hx
    dsimp only
    rw [if_neg (by decide), c_isOn hw hF (by omega), mb_bd]
    by_cases c : b2i (on.testBit k) = b
    · rw [if_pos c, if_pos c]
      exact ⟨S, rfl, h, Nat.le_refl _⟩
    · rw [if_neg c, if_neg c]
      unfold f_Chart_swapLaw f_Lots_forgetLawful f_Bins_forget
      rw [mb_nm, mb_nm, mb_nm, mb_bd, mb_nm, mb_nm, mb_nm, mb_bd, mb_nm, mb_bd, hF.1, sh_bit k (by omega), nI_xor]
      obtain ⟨S1, e1⟩ : ∃ S1, S1 = pI (pI (pI (pI (pI (pI (pI S 4 12 (nI (on ^^^ 2 ^ k))) 4 16 0) 4 17 0) 8 8 0) 8 9 0) 8 10 0) 9 6 0 := ⟨_, rfl⟩
      rw [← e1]
      have a : agC [(4, 12), (4, 16), (4, 17), (8, 8), (8, 9), (8, 10), (9, 6)] [] [] S S1 := by
        rw [e1]
        exact ((((((agC.pI S 4 12 _ (by decide)).tr (agC.pI _ 4 16 _ (by decide))).tr (agC.pI _ 4 17 _ (by decide))).tr (agC.pI _ 8 8 _ (by decide))).tr (agC.pI _ 8 9 _ (by decide))).tr (agC.pI _ 8 10 _ (by decide))).tr (agC.pI _ 9 6 _ (by decide))
      have g12 : gI S1 4 12 = nI (on ^^^ 2 ^ k) := by rw [e1]; simp [mb_II]
      have g16 : gI S1 4 16 = 0 := by rw [e1]; simp [mb_II]
      have g17 : gI S1 4 17 = 0 := by rw [e1]; simp [mb_II]
      have g87 : gI S1 8 8 = 0 := by rw [e1]; simp [mb_II]
      have g88 : gI S1 8 9 = 0 := by rw [e1]; simp [mb_II]
      have g89 : gI S1 8 10 = 0 := by rw [e1]; simp [mb_II]
      have g96 : gI S1 9 6 = 0 := by rw [e1]; simp [mb_II]
      refine ⟨S1, rfl, ⟨hw, hT.ag a (by decide), hK.ag a (by decide) (by decide), hN.ag a, hM.ag a (by decide) (by decide), ⟨g12, ?_, fun z => absurd g16 z⟩, hS.ag a (by decide) (by decide), fun z => absurd g17 z, hL.ag a (by decide) (by decide), fun z => absurd g87 z, fun z => absurd g88 z, fun z => absurd g89 z, fun z => absurd g96 z⟩, ?_⟩
      · exact Nat.xor_lt_two_pow hF.2.1 (Nat.pow_lt_pow_right (by decide) hk)
      · unfold Ph
        rw [a.2.2.2]
        exact Nat.le_refl _
theorem c_append (ht : CT tn tb pl S) (h4 : tn + 4 ≤ 2000) (w : Int32) : ∃ S', f_Lots_append S w = some S' ∧ agC [(0, 6)] [(0, 0)] [] S S' ∧ CT (tn + 4) (tbP tb tn w) pl S' := by
  unfold f_Lots_append
  have key := wh_ix (f := un2 (Lots_append_l3 w)) (s := (S, (24 : Int32))) 4 (fun i q => q.2 = sh4 i ∧ agC [(0, 6)] [(0, 0)] [] S q.1 ∧ CT (tn + i) (tbP tb tn w) pl q.1) (fun S' => agC [(0, 6)] [(0, 0)] [] S S' ∧ CT (tn + 4) (tbP tb tn w) pl S') ⟨rfl, agC.rf S, by have := ht.1; omega, ht.2.1, ht.2.2.1, fun j hj => by unfold tbP; rw [if_pos (by omega)]; exact ht.2.2.2 j (by omega)⟩ ?_ ?_
  · obtain ⟨S', h1, h2, h3⟩ := key
    exact ⟨S', by rw [h1, mb_bd], h2, h3⟩
  · intro i q hi hI
    obtain ⟨S1, x2⟩ := q
    obtain ⟨e1, a1, t0, t1, t2, t3⟩ := hI
    dsimp only at e1 a1 t0 t1 t2 t3
    subst e1
    obtain ⟨s1, s2⟩ := sh4_s i hi
    left
    refine ⟨(pI (pA S1 0 0 (tn + i) (byt w (sh4 i))) 0 6 (nI (tn + i + 1)), sh4 (i + 1)), ?_, rfl, a1.tr ((agC.pA S1 0 0 _ _ (by decide)).tr (agC.pI _ 0 6 _ (by decide))), by omega, ?_, ?_, ?_⟩
    · show Lots_append_l3 w S1 (sh4 i) = _
      unfold Lots_append_l3 Lots_append_j42_l3
      rw [if_neg s2, t1, if_neg (by rw [mb_le (by omega) (by omega)]; omega), mb_in (by omega) (by decide), mb_gd, mb_cl (by omega), pk_vb, mb_nm, mb_nm, mb_nm, mb_IA, t1, nI_1, s1, byt_eq w hi]
    · rw [mb_II, if_pos ⟨rfl, rfl⟩]; rfl
    · rw [mb_II, if_neg (by decide), mb_IA]; exact t2
    · intro j hj
      show gA (pA S1 0 0 (tn + i) (byt w (sh4 i))) 0 0 j = _
      rw [mb_AA]
      by_cases e : j = tn + i
      · rw [if_pos ⟨rfl, rfl, e⟩, e]
        unfold tbP
        rw [if_neg (by omega), show tn + i - tn = i by omega]
      · rw [if_neg (fun z => e z.2.2)]
        exact t3 j (by omega)
  · intro q hI
    obtain ⟨S1, x2⟩ := q
    obtain ⟨e1, a1, t1⟩ := hI
    dsimp only at e1 a1 t1
    subst e1
    refine ⟨S1, ?_, a1, t1⟩
    show Lots_append_l3 w S1 (sh4 4) = _
    unfold Lots_append_l3
    rw [if_pos (by decide)]
theorem cInv.tape {tn' : Nat} {tb' : Nat → Int32} (h : cInv T on lg tn tb pl S) (a : agC [(0, 6)] [(0, 0)] [] S S') (ht : CT tn' tb' pl S') : cInv T on lg tn' tb' pl S' ∧ Ph S ≤ Ph S' := by
  obtain ⟨hw, hT, hK, hN, hM, hF, hS, hU, hL, hX, hY, hZ, hC⟩ := id h
  refine ⟨⟨hw, ht, hK.ag a (by decide) (by decide), hN.ag a, hM.ag a (by decide) (by decide), hF.ag a (by decide) (by decide), hS.ag a (by decide) (by decide), hU.ag a (by decide) (by decide), hL.ag a (by decide) (by decide), hX.ag a (by decide) (by decide), hY.ag a (by decide) (by decide), hZ.ag a (by decide) (by decide), hC.ag a (by decide) (by decide)⟩, ?_⟩
  unfold Ph
  rw [a.2.2.2]
  exact Nat.le_refl _
theorem cc_feed (h : cInv T on lg tn tb pl S) (a b c d e : Int32) : ∃ S', f_Lots_feed S a b c d e = some ((spFeed tn tb a b c d e).1, S') ∧ cInv T on lg (spFeed tn tb a b c d e).2.1 (spFeed tn tb a b c d e).2.2 pl S' ∧ Ph S ≤ Ph S' := by
  have hT := h.2.1
  have h2 := hT.1
  unfold f_Lots_feed spFeed
  rw [hT.2.1, show (20 : Int32) = nI 20 from rfl, nI_add, show (2000 : Int32) = nI 2000 from rfl]
  by_cases c0 : tn + 20 ≤ 2000
  · rw [if_pos (by rw [mb_le (by omega) (by omega)]; exact c0), if_pos c0]
    obtain ⟨S1, h1, a1, t1⟩ := c_append hT (by omega) a
    obtain ⟨S2, h2, a2, t2⟩ := c_append t1 (by omega) b
    obtain ⟨S3, h3, a3, t3⟩ := c_append t2 (by omega) c
    obtain ⟨S4, h4, a4, t4⟩ := c_append t3 (by omega) d
    obtain ⟨S5, h5, a5, t5⟩ := c_append t4 (by omega) e
    rw [h1, mb_bd, h2, mb_bd, h3, mb_bd, h4, mb_bd, h5, mb_bd, t5.2.1]
    have aa := (((a1.tr a2).tr a3).tr a4).tr a5
    exact ⟨S5, rfl, h.tape aa t5⟩
  · rw [if_neg (by rw [mb_le (by omega) (by omega)]; exact c0), if_neg c0]
    exact ⟨S, rfl, h, Nat.le_refl _⟩
theorem cc_back (h : cInv T on lg tn tb pl S) (x : Int32) : ∃ S', f_Lots_back S x = some ((spBack tn x).1, S') ∧ cInv T on lg (spBack tn x).2 tb pl S' ∧ Ph S ≤ Ph S' := by
  have hT := h.2.1
  have h2 := hT.1
  unfold f_Lots_back Lots_back_j12 spBack
  rw [hT.2.1]
  cases hx : ixN x (tn + 1) with
  | none =>
    refine ⟨S, ?_, h, Nat.le_refl _⟩
    rcases ixN_n hx with c | ⟨c, d⟩
    · rw [if_pos c]
    · obtain ⟨j, hj, rfl⟩ := nI_of c
      rw [mb_le (by omega) (by omega)] at d
      rw [if_neg c, if_neg (by rw [mb_le (by omega) (by omega)]; omega)]
  | some k =>
    obtain ⟨hk, rfl, c, d⟩ := ixN_s (by omega) hx
    dsimp only
    rw [if_neg c, if_pos (by rw [mb_le (by omega) (by omega)]; omega), pk_sub (by omega), mb_nm, mb_II, if_pos ⟨rfl, rfl⟩]
    refine ⟨_, rfl, h.tape (agC.pI S 0 6 _ (by decide)) ⟨by omega, ?_, ?_, ?_⟩⟩
    · rw [mb_II, if_pos ⟨rfl, rfl⟩]
    · rw [mb_II, if_neg (by decide)]; exact hT.2.2.1
    · intro j hj
      exact hT.2.2.2 j (by omega)
