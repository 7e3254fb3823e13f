/-! the class: rows, row -/
theorem s_64 : ∀ k, k < 64 → (((nI k).toInt64 &&& 63).toBitVec.smod 64).toNat = k := by decide +kernel
theorem one_64 : ∀ k, k < 64 → ((1 : Int64) <<< ((nI k).toInt64 &&& 63)).toBitVec = BitVec.ofNat 64 (2 ^ k) := by decide +kernel
theorem ix_640 {n k : Nat} (hn : n < 10) (hk : k < 64) : f_Chains_indexOf (nI (n + 1)) (nI k) = some (nI (64 * n + k)) := by
  have e : (nI (n + 1) - 1) * 64 + nI k = nI (64 * n + k) := by
    rw [nI_pred, l64, pk_mul, nI_add, Nat.mul_comm]
  have e1 : (if nI (64 * n + k) < (639 : Int32) then nI (64 * n + k) else (639 : Int32)) = nI (64 * n + k) := by
    by_cases c : 64 * n + k < 639
    · exact if_pos (by rw [show (639 : Int32) = nI 639 from rfl, mb_lt (by omega) (by omega)]; exact c)
    · rw [show 64 * n + k = 639 by omega]
      rfl
  unfold f_Chains_indexOf
  rw [e, mb_nm, e1]
  by_cases c2 : 0 < 64 * n + k
  · rw [if_pos (by rw [l0, mb_lt (by omega) (by omega)]; exact c2)]
  · rw [show 64 * n + k = 0 by omega]
    rfl
theorem sh_64 {k : Nat} (hk : k < 64) (x : Int64) : (lg_cmp ((x >>> ((nI k).toInt64 &&& 63)) &&& (1 : Int64)) (0 : Int64) = 0) = (x.toBitVec.getLsbD k = false) := by
  rw [lg_cmp_eq]
  have e0 : (x >>> ((nI k).toInt64 &&& 63)).toBitVec.getLsbD 0 = x.toBitVec.getLsbD k := by
    rw [Int64.toBitVec_shiftRight]
    show (x.toBitVec.sshiftRight (((nI k).toInt64 &&& 63).toBitVec.smod 64).toNat).getLsbD 0 = _
    rw [s_64 k hk, BitVec.getLsbD_sshiftRight]
    simp [hk]
  rw [← e0]
  generalize x >>> ((nI k).toInt64 &&& 63) = y
  refine propext ⟨fun h => ?_, fun h => ?_⟩
  · have h1 := congrArg Int64.toBitVec h
    have h2 := congrArg (fun z : BitVec 64 => z.getLsbD 0) h1
    have h3 : (y &&& 1).toBitVec.getLsbD 0 = (y.toBitVec.getLsbD 0 && (1 : Int64).toBitVec.getLsbD 0) := by
      rw [Int64.toBitVec_and, BitVec.getLsbD_and]
    have h4 : (1 : Int64).toBitVec.getLsbD 0 = true := by decide
    have h5 : (0 : Int64).toBitVec.getLsbD 0 = false := by decide
    rw [h3, h4, h5, Bool.and_true] at h2
    exact h2
  · apply Int64.toBitVec_inj.mp
    apply BitVec.eq_of_getLsbD_eq
    intro i hi
    rw [Int64.toBitVec_and, BitVec.getLsbD_and]
    have h1 : (1 : Int64).toBitVec = BitVec.ofNat 64 (2 ^ 0) := rfl
    have h5 : (0 : Int64).toBitVec = BitVec.ofNat 64 0 := rfl
    rw [h1, h5, BitVec.getLsbD_ofNat, BitVec.getLsbD_ofNat, Nat.zero_testBit, Nat.testBit_two_pow]
    by_cases e : i = 0
    · rw [e, h]
      rfl
    · rw [decide_eq_false (show ¬ 0 = i from fun z => e z.symm)]
      simp
theorem suN_cg {f g : Nat → Nat} : ∀ {n : Nat}, (∀ b, b < n → f b = g b) → suN f n = suN g n
  | 0, _ => rfl
  | n + 1, h => by
    show suN f n + f n = suN g n + g n
    rw [suN_cg (fun b hb => h b (by omega)), h n (by omega)]
variable {T : Tx} {on tn : Nat} {lg : List Nat} {tb : Nat → Int32} {pl : Int32} {S S' : St}
theorem c_spell (hw : wfT T) (hB : CB T S) {i k : Nat} (hk : k = 1 ∨ k = 2) (hi : i < 32768) : ∃ S', f_Book_spell 5 9 k S (nI i) = some S' ∧ agC [] [(9, k)] [] S S' ∧ ∀ f, f < tNf T → gA S' 9 k f = tEv T i f := by
  have n6 := hw.1
  have hln : ∀ S' : St, lenC S' 9 k = 8 := fun S' => by
    rcases hk with e | e <;> subst e <;> rfl
  have key := wh_ix (f := un2 (Book_spell_l2 5 9 k (nI i))) (s := (S, (0 : Int32))) (tNf T) (fun f q => q.2 = nI f ∧ agC [] [(9, k)] [] S q.1 ∧ ∀ g, g < f → gA q.1 9 k g = tEv T i g) (fun S' => agC [] [(9, k)] [] S S' ∧ ∀ g, g < tNf T → gA S' 9 k g = tEv T i g) ⟨rfl, agC.rf S, fun g hg => absurd hg (Nat.not_lt_zero g)⟩ ?_ ?_
  · obtain ⟨S', h1, h2⟩ := key
    unfold f_Book_spell Book_spell_j31
    rw [h1, mb_bd]
    exact ⟨S', rfl, h2⟩
  · intro f q hf hI
    obtain ⟨S1, x⟩ := q
    obtain ⟨e1, a1, v1⟩ := hI
    dsimp only at e1 a1 v1
    subst e1
    have hB1 : CB T S1 := hB.ag a1 (by decide) (by
      refine ⟨?_, ?_, ?_, ?_, ?_⟩ <;> (intro z; rw [List.mem_singleton] at z; cases z))
    left
    refine ⟨(pA S1 9 k f (nI (tVa T i f)), nI (f + 1)), ?_, rfl, a1.tr (agC.pA S1 9 k f _ List.mem_cons_self), fun g hg => ?_⟩
    · show Book_spell_l2 5 9 k (nI i) S1 (nI f) = _
      unfold Book_spell_l2
      rw [hB1.1, if_neg (by rw [mb_le (by omega) (by omega)]; omega), hln, if_neg (by rw [mb_le (by omega) (by omega)]; omega), c_valueIn hw hB1 hi hf, mb_bd, mb_in (by omega) (by decide), mb_gd, mb_nm, mb_nm, mb_cl (by omega), nI_1]
    · show gA (pA S1 9 k f _) 9 k g = _
      rw [mb_AA]
      by_cases e : g = f
      · rw [if_pos ⟨rfl, rfl, e⟩, e]; rfl
      · rw [if_neg (fun z => e z.2.2)]; exact v1 g (by omega)
  · intro q hI
    obtain ⟨S1, x⟩ := q
    obtain ⟨e1, a1, v1⟩ := hI
    dsimp only at e1 a1 v1
    subst e1
    have e10 : gI S1 5 10 = nI (tNf T) := by rw [a1.1 5 10 (by decide)]; exact hB.1
    refine ⟨S1, ?_, a1, v1⟩
    show Book_spell_l2 5 9 k (nI i) S1 (nI (tNf T)) = _
    unfold Book_spell_l2
    rw [e10, if_pos (by rw [mb_le (by omega) (by omega)]; omega)]
theorem c_nexts (hw : wfT T) (hK : CK T S) {i j : Nat} (hn : ∀ f, f < tNf T → gA S 9 1 f = tEv T j f) (ho : ∀ f, f < tNf T → gA S 9 2 f = tEv T i f) : ∃ S', f_Chains_allNextsHold S = some (b2i (alK T i j (tNt T 3)), S') ∧ agC [] [(10, 0)] [] S S' := by
  have n8 := hw.2.2.2.1 3 (by decide)
  have key := wh_ix (f := un2 Chains_allNextsHold_l2) (s := (S, (0 : Int32))) (tNt T 3) (fun k q => q.2 = nI k ∧ agC [] [(10, 0)] [] S q.1 ∧ alK T i j k = true) (fun r => r.1 = b2i (alK T i j (tNt T 3)) ∧ agC [] [(10, 0)] [] S r.2) ⟨rfl, agC.rf S, rfl⟩ ?_ ?_
  · obtain ⟨⟨r, S'⟩, h1, h2, h3⟩ := key
    dsimp only at h2 h3
    refine ⟨S', ?_, h3⟩
    unfold f_Chains_allNextsHold
    rw [h1, h2]
  · intro k q hk hI
    obtain ⟨S1, x⟩ := q
    obtain ⟨e1, a1, v1⟩ := hI
    dsimp only at e1 a1 v1
    subst e1
    have hK1 := hK.ag a1 (by decide) (by decide)
    obtain ⟨S2, h2, a2⟩ := (hK1.2.2 S1 rfl rfl rfl 10 9 1 9 2 (Or.inr ⟨rfl, rfl, rfl, rfl, rfl⟩)).1 3 k (by decide) hk
    have ec : tCd T 3 k (gA S1 9 1) (gA S1 9 2) = tCd T 3 k (tEv T j) (tEv T i) := hw.2.2.2.2.2.1 3 k (by decide) hk _ _ _ _ (fun f hf => by rw [a1.2.1 9 1 (by decide)]; exact hn f hf) (fun _ f hf => by rw [a1.2.1 9 2 (by decide)]; exact ho f hf)
    rw [ec] at h2
    have h2 : f_Machine_run 10 9 1 9 2 S1 ((24 : Int32) + nI k) = some (b2i (tCd T 3 k (tEv T j) (tEv T i)), S2) := by
      rw [show (24 : Int32) = nI 24 from rfl, nI_add]
      exact h2
    have ea : alK T i j (k + 1) = (alK T i j k && tCd T 3 k (tEv T j) (tEv T i)) := rfl
    rw [v1, Bool.true_and] at ea
    have body : Chains_allNextsHold_l2 S1 (nI k) = (if b2i (tCd T 3 k (tEv T j) (tEv T i)) = 0 then some (.inr (0, S2)) else some (.inl (S2, nI (k + 1)))) := by
      unfold Chains_allNextsHold_l2
      rw [show f_Book_toldOf 5 S1 3 = some (nI (tNt T 3)) from c_toldOf hK1.1 (s := 3) (by decide), mb_bd, if_neg (by rw [mb_le (by omega) (by omega)]; omega), h2, mb_bd2, mb_nm, nI_1]
    cases hc : tCd T 3 k (tEv T j) (tEv T i) with
    | false =>
      rw [hc] at ea body
      right
      refine ⟨(0, S2), ?_, ?_, a1.tr a2⟩
      · show Chains_allNextsHold_l2 S1 (nI k) = _
        rw [body, if_pos (by rfl)]
      · rw [alK_f T i j (show k + 1 ≤ tNt T 3 by omega) ea]
        rfl
    | true =>
      rw [hc] at ea body
      left
      refine ⟨(S2, nI (k + 1)), ?_, rfl, a1.tr a2, ea⟩
      show Chains_allNextsHold_l2 S1 (nI k) = _
      rw [body, if_neg (by decide)]
  · intro q hI
    obtain ⟨S1, x⟩ := q
    obtain ⟨e1, a1, v1⟩ := hI
    dsimp only at e1 a1 v1
    subst e1
    have hK1 := hK.ag a1 (by decide) (by decide)
    refine ⟨(1, S1), ?_, ?_, a1⟩
    · show Chains_allNextsHold_l2 S1 (nI (tNt T 3)) = _
      unfold Chains_allNextsHold_l2
      rw [show f_Book_toldOf 5 S1 3 = some (nI (tNt T 3)) from c_toldOf hK1.1 (s := 3) (by decide), mb_bd, if_pos (by rw [mb_le (by omega) (by omega)]; omega)]
    · rw [v1]
      rfl
def chI : List (Nat × Nat) := [(9, 5)]
def chA : List (Nat × Nat) := [(9, 1), (9, 2), (10, 0)]
def chB : List (Nat × Nat) := [(9, 3), (9, 4)]
theorem cInv.ch (h : cInv T on lg tn tb pl S) (h6 : gI S 9 6 = 0) (a : agC chI chA chB S S') : cInv T on lg tn tb pl S' := by
  obtain ⟨hw, hT, hK, hN, hM, hF, hS, hU, hL, hX, hY, hZ, hC⟩ := h
  refine ⟨hw, hT.ag a (by decide), hK.ag a (by decide) (by decide), hN.ag a, hM.ag a (by decide) (by decide), hF.ag a (by decide) (by decide), hS.ag a (by decide) (by decide), hU.ag a (by decide) (by decide), hL.ag a (by decide) (by decide), hX.ag a (by decide) (by decide), hY.ag a (by decide) (by decide), hZ.ag a (by decide) (by decide), ?_⟩
  intro z
  rw [a.1 9 6 (by decide)] at z
  exact absurd h6 z
theorem c_follow (h : cInv T on lg tn tb pl S) (hf : ¬ gI S 4 16 = 0) (h6 : gI S 9 6 = 0) (hl : (lwS T on).length ≤ 64) (h5 : gI S 9 5 = nI (lwS T on).length) {a : Nat} (ho : ∀ f, f < tNf T → gA S 9 2 f = tEv T ((lwS T on).getD a 0) f) : ∃ S' w, f_Chains_followersOfOld S = some (w, S') ∧ agC [] [(9, 1), (10, 0)] [] S S' ∧ ∀ b, b < (lwS T on).length → w.toBitVec.getLsbD b = flw T on a b := by
  have hw := h.1
  have n1 := hw.2.2.1
  have key := wh_ix (f := un3 Chains_followersOfOld_l5) (s := (S, (0 : Int64), (0 : Int32))) (lwS T on).length (fun k q => q.2.2 = nI k ∧ agC [] [(9, 1), (10, 0)] [] S q.1 ∧ ∀ b, b < 64 → q.2.1.toBitVec.getLsbD b = (decide (b < k) && flw T on a b)) (fun r => agC [] [(9, 1), (10, 0)] [] S r.1 ∧ ∀ b, b < 64 → r.2.toBitVec.getLsbD b = (decide (b < (lwS T on).length) && flw T on a b)) ⟨rfl, agC.rf S, fun b hb => by
      show (0 : Int64).toBitVec.getLsbD b = _
      rw [show (0 : Int64).toBitVec = BitVec.ofNat 64 0 from rfl, BitVec.getLsbD_ofNat, Nat.zero_testBit]
      simp⟩ ?_ ?_
  · obtain ⟨⟨S', w⟩, h1, a1, v1⟩ := key
    dsimp only at a1 v1
    refine ⟨S', w, ?_, a1, fun b hb => ?_⟩
    · unfold f_Chains_followersOfOld
      rw [h1, mb_bd2]
    · rw [v1 b (by omega), decide_eq_true hb, Bool.true_and]
  · intro k q hk hI
    obtain ⟨S1, x2, x4⟩ := q
    obtain ⟨e1, a1, v1⟩ := hI
    dsimp only at e1 a1 v1
    subst e1
    have hi1 := h.ch h6 (a1.wk (by decide) (by decide) (by decide))
    have hg := get_some hk
    have hlt := lwS_lt hg
    have hin := c_inputOf hi1 (by rw [a1.1 4 16 (by decide)]; exact hf) hg
    obtain ⟨S2, h2, a2, v2⟩ := c_spell (k := 1) hw hi1.2.2.1.1 (Or.inl rfl) (show (lwS T on).getD k 0 < 32768 by omega)
    have hK2 := hi1.2.2.1.ag a2 (by decide) (by decide)
    obtain ⟨S3, h3, a3⟩ := c_nexts (i := (lwS T on).getD a 0) hw hK2 v2 (fun f hf => by rw [a2.2.1 9 2 (by decide), a1.2.1 9 2 (by decide)]; exact ho f hf)
    have a13 : agC [] [(9, 1), (10, 0)] [] S S3 := (a1.tr (a2.wk (by decide) (by decide) (by decide))).tr (a3.wk (by decide) (by decide) (by decide))
    left
    have e5 : gI S1 9 5 = nI (lwS T on).length := by rw [a1.1 9 5 (by decide)]; exact h5
    have body : Chains_followersOfOld_l5 S1 x2 (nI k) = (if b2i (flw T on a k) = 0 then some (.inl (S3, x2, nI (k + 1))) else some (.inl (S3, x2 ||| ((1 : Int64) <<< ((nI k).toInt64 &&& 63)), nI (k + 1)))) := by
      unfold Chains_followersOfOld_l5 Chains_followersOfOld_j49_l5
      rw [e5, if_neg (by rw [mb_le (by omega) (by omega)]; omega), hin, mb_bd, h2, mb_bd, h3, mb_bd2]
      simp only [mb_nm]
      rw [nI_1]
      rfl
    show ∃ t, Chains_followersOfOld_l5 S1 x2 (nI k) = some (.inl t) ∧ _
    rw [body]
    have dk : ∀ b, ¬ b = k → decide (b < k + 1) = decide (b < k) := by
      intro b hb
      by_cases c : b < k
      · rw [decide_eq_true c, decide_eq_true (by omega)]
      · rw [decide_eq_false c, decide_eq_false (by omega)]
    cases hc : flw T on a k with
    | false =>
      rw [if_pos (by rfl)]
      refine ⟨_, rfl, rfl, a13, fun b hb => ?_⟩
      show x2.toBitVec.getLsbD b = _
      rw [v1 b hb]
      by_cases e : b = k
      · rw [e, hc, Bool.and_false, Bool.and_false]
      · rw [dk b e]
    | true =>
      rw [if_neg (by decide)]
      refine ⟨_, rfl, rfl, a13, fun b hb => ?_⟩
      show (x2 ||| ((1 : Int64) <<< ((nI k).toInt64 &&& 63))).toBitVec.getLsbD b = _
      rw [Int64.toBitVec_or, BitVec.getLsbD_or, v1 b hb, one_64 k (by omega), BitVec.getLsbD_ofNat, Nat.testBit_two_pow, decide_eq_true hb, Bool.true_and]
      by_cases e : b = k
      · rw [e, hc, decide_eq_true rfl, decide_eq_true (Nat.lt_succ_self k), Bool.or_true]
        rfl
      · rw [dk b e, decide_eq_false (show ¬ k = b from fun z => e z.symm), Bool.or_false]
  · intro q hI
    obtain ⟨S1, x2, x4⟩ := q
    obtain ⟨e1, a1, v1⟩ := hI
    dsimp only at e1 a1 v1
    subst e1
    have e5 : gI S1 9 5 = nI (lwS T on).length := by rw [a1.1 9 5 (by decide)]; exact h5
    refine ⟨(S1, x2), ?_, a1, v1⟩
    show Chains_followersOfOld_l5 S1 x2 (nI (lwS T on).length) = _
    unfold Chains_followersOfOld_l5
    rw [e5, if_pos (by rw [mb_le (by omega) (by omega)]; omega)]
theorem c_ways (h5 : gI S 9 5 = nI (lwS T on).length) (hl : (lwS T on).length ≤ 64) {n : Nat} (hn : n < 10) (hy : ∀ a, a < (lwS T on).length → gB S 9 4 (64 * n + a) = lN (wyN T on n a)) (w : Int64) : f_Chains_waysOver S (nI (n + 1)) w = some (lN (suN (fun b => cond (w.toBitVec.getLsbD b) (wyN T on n b) 0) (lwS T on).length)) := by
  have key := wh_ix (f := un2 (Chains_waysOver_l6 S (nI (n + 1)) w)) (s := ((0 : Int64), (0 : Int32))) (lwS T on).length (fun b s => s.2 = nI b ∧ s.1 = lN (suN (fun b => cond (w.toBitVec.getLsbD b) (wyN T on n b) 0) b)) (fun r => r = lN (suN (fun b => cond (w.toBitVec.getLsbD b) (wyN T on n b) 0) (lwS T on).length)) ⟨rfl, rfl⟩ ?_ ?_
  · obtain ⟨r, h1, h2⟩ := key
    unfold f_Chains_waysOver
    rw [h1, h2, mb_bd]
  · intro b s hb hI
    obtain ⟨x4, x6⟩ := s
    obtain ⟨e1, e2⟩ := hI
    dsimp only at e1 e2
    subst e1 e2
    left
    refine ⟨(lN (suN (fun b => cond (w.toBitVec.getLsbD b) (wyN T on n b) 0) (b + 1)), nI (b + 1)), ?_, rfl, rfl⟩
    show Chains_waysOver_l6 S (nI (n + 1)) w _ (nI b) = _
    unfold Chains_waysOver_l6 Chains_waysOver_j42_l6
    rw [h5, if_neg (by rw [mb_le (by omega) (by omega)]; omega), ix_640 hn (by omega), mb_bd, mb_in (by omega) (by decide), mb_gd, mb_cl (by omega), hy b hb, lN_add]
    simp only [mb_nm]
    rw [nI_1]
    show _ = some (Sum.inl (lN (suN (fun b => cond (w.toBitVec.getLsbD b) (wyN T on n b) 0) b + cond (w.toBitVec.getLsbD b) (wyN T on n b) 0), nI (b + 1)))
    cases hc : w.toBitVec.getLsbD b with
    | false => rw [if_pos (by rw [sh_64 (by omega)]; exact hc)]; rfl
    | true => rw [if_neg (by rw [sh_64 (by omega), hc]; decide)]; rfl
  · intro s hI
    obtain ⟨x4, x6⟩ := s
    obtain ⟨e1, e2⟩ := hI
    dsimp only at e1 e2
    subst e1 e2
    refine ⟨_, ?_, rfl⟩
    show Chains_waysOver_l6 S (nI (n + 1)) w _ (nI (lwS T on).length) = _
    unfold Chains_waysOver_l6
    rw [h5, if_pos (by rw [mb_le (by omega) (by omega)]; omega)]
def BHd (T : Tx) (on n : Nat) (S : St) : Prop := ∀ a b, a < n → b < (lwS T on).length → (gB S 9 3 a).toBitVec.getLsbD b = flw T on a b
def WYc (T : Tx) (on n a : Nat) (S : St) : Prop := ∀ n' a', a' < (lwS T on).length → (n' < n ∨ (n' = n ∧ a' < a)) → gB S 9 4 (64 * n' + a') = lN (wyN T on n' a')
theorem c_behind (h : cInv T on lg tn tb pl S) (hf : ¬ gI S 4 16 = 0) (h6 : gI S 9 6 = 0) (hl : (lwS T on).length ≤ 64) (h5 : gI S 9 5 = nI (lwS T on).length) : ∃ S', wh (un2 Chains_refresh_l23) (S, (0 : Int32)) = some S' ∧ agC [] chA [(9, 3)] S S' ∧ BHd T on (lwS T on).length S' := by
  have hw := h.1
  have n1 := hw.2.2.1
  refine wh_ix (f := un2 Chains_refresh_l23) (s := (S, (0 : Int32))) (lwS T on).length (fun k q => q.2 = nI k ∧ agC [] chA [(9, 3)] S q.1 ∧ BHd T on k q.1) (fun S' => agC [] chA [(9, 3)] S S' ∧ BHd T on (lwS T on).length S') ⟨rfl, agC.rf S, fun a b ha => absurd ha (Nat.not_lt_zero a)⟩ ?_ ?_
  · intro k q hk hI
    obtain ⟨S1, x⟩ := q
    obtain ⟨e1, a1, v1⟩ := hI
    dsimp only at e1 a1 v1
    subst e1
    have hi1 := h.ch h6 (a1.wk (by decide) (by decide) (by decide))
    have hg := get_some hk
    have hlt := lwS_lt hg
    have hf1 : ¬ gI S1 4 16 = 0 := by rw [a1.1 4 16 (by decide)]; exact hf
    have hin := c_inputOf hi1 hf1 hg
    obtain ⟨S2, h2, a2, v2⟩ := c_spell (k := 2) hw hi1.2.2.1.1 (Or.inr rfl) (show (lwS T on).getD k 0 < 32768 by omega)
    have h61 : gI S1 9 6 = 0 := by rw [a1.1 9 6 (by decide)]; exact h6
    have e5 : gI S1 9 5 = nI (lwS T on).length := by rw [a1.1 9 5 (by decide)]; exact h5
    have hi2 := hi1.ch h61 (a2.wk (by decide) (by decide) (by decide))
    obtain ⟨S3, w, h3, a3, v3⟩ := c_follow (a := k) hi2 (by rw [a2.1 4 16 (by decide)]; exact hf1) (by rw [a2.1 9 6 (by decide)]; exact h61) hl (by rw [a2.1 9 5 (by decide)]; exact e5) v2
    left
    refine ⟨(pB S3 9 3 k w, nI (k + 1)), ?_, rfl, ((a1.tr (a2.wk (by decide) (by decide) (by decide))).tr (a3.wk (by decide) (by decide) (by decide))).tr (agC.pB S3 9 3 k w (by decide)), fun a b ha hb => ?_⟩
    · show Chains_refresh_l23 S1 (nI k) = _
      unfold Chains_refresh_l23
      rw [e5, if_neg (by rw [mb_le (by omega) (by omega)]; omega), hin, mb_bd, h2, mb_bd, h3, mb_bd2, mb_in (by omega) (by decide), mb_gd, mb_nm, mb_nm, mb_cl (by omega), nI_1]
    · show (gB (pB S3 9 3 k w) 9 3 a).toBitVec.getLsbD b = _
      rw [mb_BB]
      by_cases e : a = k
      · rw [if_pos ⟨rfl, rfl, e⟩, e]; exact v3 b hb
      · rw [if_neg (fun z => e z.2.2), a3.2.2.1 9 3 (by decide), a2.2.2.1 9 3 (by decide)]; exact v1 a b (by omega) hb
  · intro q hI
    obtain ⟨S1, x⟩ := q
    obtain ⟨e1, a1, v1⟩ := hI
    dsimp only at e1 a1 v1
    subst e1
    have e5 : gI S1 9 5 = nI (lwS T on).length := by rw [a1.1 9 5 (by decide)]; exact h5
    refine ⟨S1, ?_, a1, v1⟩
    show Chains_refresh_l23 S1 (nI (lwS T on).length) = _
    unfold Chains_refresh_l23
    rw [e5, if_pos (by rw [mb_le (by omega) (by omega)]; omega)]
theorem c_wrow (h5 : gI S 9 5 = nI (lwS T on).length) (hl : (lwS T on).length ≤ 64) {n : Nat} (hn : n < 10) (hb : BHd T on (lwS T on).length S) (hy : WYc T on n 0 S) : ∃ S', wh (un2 (Chains_refresh_l74 (nI (n + 1)))) (S, (0 : Int32)) = some S' ∧ agC [] [] [(9, 4)] S S' ∧ WYc T on (n + 1) 0 S' := by
  refine wh_ix (f := un2 (Chains_refresh_l74 (nI (n + 1)))) (s := (S, (0 : Int32))) (lwS T on).length (fun k q => q.2 = nI k ∧ agC [] [] [(9, 4)] S q.1 ∧ WYc T on n k q.1) (fun S' => agC [] [] [(9, 4)] S S' ∧ WYc T on (n + 1) 0 S') ⟨rfl, agC.rf S, hy⟩ ?_ ?_
  · intro k q hk hI
    obtain ⟨S1, x⟩ := q
    obtain ⟨e1, a1, v1⟩ := hI
    dsimp only at e1 a1 v1
    subst e1
    have e5 : gI S1 9 5 = nI (lwS T on).length := by rw [a1.1 9 5 (by decide)]; exact h5
    left
    refine ⟨(pB S1 9 4 (64 * n + k) (lN (wyN T on n k)), nI (k + 1)), ?_, rfl, a1.tr (agC.pB S1 9 4 _ _ (by decide)), fun n' a' ha' hc => ?_⟩
    · show Chains_refresh_l74 (nI (n + 1)) S1 (nI k) = _
      unfold Chains_refresh_l74
      rw [e5, if_neg (by rw [mb_le (by omega) (by omega)]; omega), ix_640 hn (by omega), mb_bd]
      have tail : ∀ t2 : Int64, Chains_refresh_j113_l74 S1 (nI (n + 1)) (nI k) (nI (64 * n + k)) t2 = some (.inl (pB S1 9 4 (64 * n + k) t2, nI (k + 1))) := by
        intro t2
        unfold Chains_refresh_j113_l74
        rw [mb_in (by omega) (by decide), mb_gd, mb_nm, mb_nm, mb_cl (by omega), nI_1]
      rw [tail]
      by_cases c : n = 0
      · rw [if_pos (by rw [c]; rfl), c]
        rfl
      · obtain ⟨m, rfl⟩ : ∃ m, n = m + 1 := ⟨n - 1, by omega⟩
        rw [if_neg (by rw [l1, mb_eq (by omega) (by omega)]; omega), mb_in (by omega) (by decide), mb_gd, mb_cl (by omega), show nI (m + 1 + 1) - 1 = nI (m + 1) from nI_pred (m + 1), c_ways e5 hl (show m < 10 by omega) (fun a ha => v1 m a ha (Or.inl (by omega))), mb_bd, tail]
        have : suN (fun b => cond ((gB S1 9 3 k).toBitVec.getLsbD b) (wyN T on m b) 0) (lwS T on).length = wyN T on (m + 1) k := suN_cg (fun b hb2 => by rw [a1.2.2.1 9 3 (by decide), hb k b hk hb2])
        rw [this]
    · show gB (pB S1 9 4 (64 * n + k) _) 9 4 (64 * n' + a') = _
      rw [mb_BB]
      by_cases e : 64 * n' + a' = 64 * n + k
      · rw [if_pos ⟨rfl, rfl, e⟩]
        have h1 : n' = n := by omega
        have h2 : a' = k := by omega
        rw [h1, h2]
      · rw [if_neg (fun z => e z.2.2)]
        refine v1 n' a' ha' ?_
        rcases hc with z | ⟨z1, z2⟩
        · exact Or.inl z
        · refine Or.inr ⟨z1, ?_⟩
          subst z1
          omega
  · intro q hI
    obtain ⟨S1, x⟩ := q
    obtain ⟨e1, a1, v1⟩ := hI
    dsimp only at e1 a1 v1
    subst e1
    have e5 : gI S1 9 5 = nI (lwS T on).length := by rw [a1.1 9 5 (by decide)]; exact h5
    refine ⟨S1, ?_, a1, fun n' a' ha' hc => v1 n' a' ha' ?_⟩
    · show Chains_refresh_l74 (nI (n + 1)) S1 (nI (lwS T on).length) = _
      unfold Chains_refresh_l74
      rw [e5, if_pos (by rw [mb_le (by omega) (by omega)]; omega)]
    · rcases hc with z | ⟨z1, z2⟩
      · by_cases e : n' = n
        · exact Or.inr ⟨e, ha'⟩
        · exact Or.inl (by omega)
      · exact absurd z2 (Nat.not_lt_zero a')
theorem c_wrows (h5 : gI S 9 5 = nI (lwS T on).length) (hl : (lwS T on).length ≤ 64) (hb : BHd T on (lwS T on).length S) : ∃ S', wh (un2 Chains_refresh_l66) (S, (1 : Int32)) = some S' ∧ agC [] [] [(9, 4)] S S' ∧ WYc T on 10 0 S' := by
  refine wh_ix (f := un2 Chains_refresh_l66) (s := (S, (1 : Int32))) 10 (fun n q => q.2 = nI (n + 1) ∧ agC [] [] [(9, 4)] S q.1 ∧ WYc T on n 0 q.1) (fun S' => agC [] [] [(9, 4)] S S' ∧ WYc T on 10 0 S') ⟨rfl, agC.rf S, fun n' a' _ hc => by
      rcases hc with z | ⟨z1, z2⟩
      · exact absurd z (Nat.not_lt_zero n')
      · exact absurd z2 (Nat.not_lt_zero a')⟩ ?_ ?_
  · intro n q hn hI
    obtain ⟨S1, x⟩ := q
    obtain ⟨e1, a1, v1⟩ := hI
    dsimp only at e1 a1 v1
    subst e1
    obtain ⟨S2, h2, a2, v2⟩ := c_wrow (S := S1) (by rw [a1.1 9 5 (by decide)]; exact h5) hl hn (fun a b ha hb2 => by rw [a1.2.2.1 9 3 (by decide)]; exact hb a b ha hb2) v1
    left
    refine ⟨(S2, nI (n + 1 + 1)), ?_, rfl, a1.tr a2, v2⟩
    show Chains_refresh_l66 S1 (nI (n + 1)) = _
    unfold Chains_refresh_l66
    rw [if_neg (by rw [show (10 : Int32) = nI 10 from rfl, mb_lt (by omega) (by omega)]; omega), h2, mb_bd, mb_nm, nI_1]
  · intro q hI
    obtain ⟨S1, x⟩ := q
    obtain ⟨e1, a1, v1⟩ := hI
    dsimp only at e1 a1 v1
    subst e1
    refine ⟨S1, ?_, a1, v1⟩
    show Chains_refresh_l66 S1 (nI (10 + 1)) = _
    unfold Chains_refresh_l66
    rw [if_pos (by decide)]
theorem c_chains (h : cInv T on lg tn tb pl S) (hf : ¬ gI S 4 16 = 0) (hl : (lwS T on).length ≤ 64) : ∃ S', f_Chains_refresh S = some S' ∧ cInv T on lg tn tb pl S' ∧ gN S' = gN S ∧ ¬ gI S' 9 6 = 0 := by
  have hw := h.1
  unfold f_Chains_refresh
  by_cases c : gI S 9 6 = 0
  · rw [if_pos c]
    have e9 : gI S 4 9 = nI (lwS T on).length := (h.2.2.2.2.2.1.2.2 hf).2.1
    rw [e9, if_neg (by rw [l64, mb_lt (by omega) (by omega)]; omega), mb_nm]
    have a1 : agC chI chA chB S (pI S 9 5 (nI (lwS T on).length)) := agC.pI S 9 5 _ (by decide)
    have hi1 := h.ch c a1
    have h61 : gI (pI S 9 5 (nI (lwS T on).length)) 9 6 = 0 := by rw [a1.1 9 6 (by decide)]; exact c
    have h51 : gI (pI S 9 5 (nI (lwS T on).length)) 9 5 = nI (lwS T on).length := by rw [mb_II, if_pos ⟨rfl, rfl⟩]
    obtain ⟨S2, h2, a2, v2⟩ := c_behind hi1 (by rw [a1.1 4 16 (by decide)]; exact hf) h61 hl h51
    have h52 : gI S2 9 5 = nI (lwS T on).length := by rw [a2.1 9 5 (by decide)]; exact h51
    obtain ⟨S3, h3, a3, v3⟩ := c_wrows h52 hl v2
    rw [h2, mb_bd, h3, mb_bd, mb_nm]
    have a13 : agC chI chA chB S S3 := (a1.tr (a2.wk (by decide) (by decide) (by decide))).tr (a3.wk (by decide) (by decide) (by decide))
    have hi3 := h.ch c a13
    have a5 : agC [(9, 6)] [] [] S3 (pI S3 9 6 1) := agC.pI S3 9 6 _ (by decide)
    obtain ⟨-, hT, hK, hN, hM, hF, hS, hU, hL, hX, hY, hZ, hC⟩ := hi3
    refine ⟨_, rfl, ⟨hw, hT.ag a5 (by decide), hK.ag a5 (by decide) (by decide), hN.ag a5, hM.ag a5 (by decide) (by decide), hF.ag a5 (by decide) (by decide), hS.ag a5 (by decide) (by decide), hU.ag a5 (by decide) (by decide), hL.ag a5 (by decide) (by decide), hX.ag a5 (by decide) (by decide), hY.ag a5 (by decide) (by decide), hZ.ag a5 (by decide) (by decide), fun _ => ⟨?_, hl, fun a b ha hb => ?_, fun n a hn ha => ?_⟩⟩, by rw [a5.2.2.2, a13.2.2.2], ?_⟩
    · rw [a5.1 9 5 (by decide), a3.1 9 5 (by decide)]; exact h52
    · rw [a5.2.2.1 9 3 (by decide), a3.2.2.1 9 3 (by decide)]; exact v2 a b ha hb
    · rw [a5.2.2.1 9 4 (by decide)]; exact v3 n a ha (Or.inl hn)
    · rw [mb_II, if_pos ⟨rfl, rfl⟩]; decide
  · rw [if_neg c]
    exact ⟨S, rfl, h, rfl, c⟩
/-- whether there are rows of that length -/
def rwOk (T : Tx) (on : Nat) (x : Int32) : Prop := ¬ x < 1 ∧ ¬ 10 < x ∧ ¬ (lwS T on).length < 1 ∧ (lwS T on).length ≤ 64
theorem c_rowsThere (h : cInv T on lg tn tb pl S) (x : Int32) : ∃ S' r, f_Lots_rowsThereOf S x = some (r, S') ∧ cInv T on lg tn tb pl S' ∧ Ph S + kRows S x ≤ Ph S' ∧ ((r = 0 ∧ ¬ rwOk T on x) ∨ (r = 1 ∧ rwOk T on x ∧ ¬ gI S' 9 6 = 0)) := by
  have hw := h.1
  have hlen := lwS_len hw on
  unfold f_Lots_rowsThereOf Lots_rowsThereOf_j11 Lots_rowsThereOf_j43 kRows rwOk
  by_cases c1 : x < 1
  · rw [if_pos c1, if_pos c1]
    exact ⟨S, 0, rfl, h, Nat.le_refl _, Or.inl ⟨rfl, fun z => z.1 c1⟩⟩
  rw [if_neg c1, if_neg c1]
  by_cases c2 : x ≤ 10
  · rw [if_pos c2, if_pos c2]
    have c2' : ¬ 10 < x := fun z => absurd (Int32.lt_of_lt_of_le z c2) Int32.lt_irrefl
    obtain ⟨S1, h1, hi, hf, hp⟩ := c_refresh h
    have e9 : gI S1 4 9 = nI (lwS T on).length := (hi.2.2.2.2.2.1.2.2 hf).2.1
    rw [h1, mb_bd, e9]
    by_cases c3 : (lwS T on).length < 1
    · rw [if_pos (by rw [l1, mb_lt (by omega) (by omega)]; exact c3)]
      exact ⟨S1, 0, rfl, hi, hp, Or.inl ⟨rfl, fun z => z.2.2.1 c3⟩⟩
    rw [if_neg (by rw [l1, mb_lt (by omega) (by omega)]; exact c3)]
    by_cases c4 : (lwS T on).length ≤ 64
    · rw [if_pos (by rw [l64, mb_le (by omega) (by omega)]; exact c4)]
      obtain ⟨S2, h2, hi2, eN, h6⟩ := c_chains hi hf c4
      rw [h2, mb_bd]
      refine ⟨S2, 1, rfl, hi2, ?_, Or.inr ⟨rfl, ⟨c1, c2', c3, c4⟩, h6⟩⟩
      unfold Ph at hp ⊢
      rw [eN]
      exact hp
    · rw [if_neg (by rw [l64, mb_le (by omega) (by omega)]; exact c4)]
      exact ⟨S1, 0, rfl, hi, hp, Or.inl ⟨rfl, fun z => c4 z.2.2.2⟩⟩
  · rw [if_neg c2, if_neg c2]
    refine ⟨S, 0, rfl, h, Nat.le_refl _, Or.inl ⟨rfl, fun z => ?_⟩⟩
    obtain ⟨L, hL, e⟩ := x_10 c1 z.2.1
    rw [e, show (10 : Int32) = nI 10 from rfl, mb_le (by omega) (by omega)] at c2
    omega
theorem spRows_no {x : Int32} (h : ¬ rwOk T on x) : spRows T on x = -1 := by
  unfold spRows
  by_cases c1 : x < 1
  · rw [if_pos c1]
  rw [if_neg c1]
  by_cases c2 : 10 < x
  · rw [if_pos c2]
  rw [if_neg c2]
  by_cases c3 : (lwS T on).length < 1
  · rw [if_pos c3]
  rw [if_neg c3]
  by_cases c4 : (lwS T on).length ≤ 64
  · exact absurd ⟨c1, c2, c3, c4⟩ h
  · rw [if_neg c4]
theorem cc_rows (h : cInv T on lg tn tb pl S) (x : Int32) : ∃ S', f_Lots_rows S x = some (spRows T on x, S') ∧ cInv T on lg tn tb pl S' ∧ Ph S + kRows S x ≤ Ph S' := by
  obtain ⟨S1, r, h1, hi, hp, hr⟩ := c_rowsThere h x
  refine ⟨S1, ?_, hi, hp⟩
  unfold f_Lots_rows
  rw [h1, mb_bd2]
  rcases hr with ⟨e, hno⟩ | ⟨e, hok, h6⟩
  · rw [if_pos e, spRows_no hno]
  · rw [if_neg (by rw [e]; decide)]
    obtain ⟨c1, c2, c3, c4⟩ := hok
    obtain ⟨h5, -, hb, hy⟩ := hi.2.2.2.2.2.2.2.2.2.2.2.2 h6
    unfold spRows
    rw [if_neg c1, if_neg c2, if_neg c3, if_pos c4]
    obtain ⟨L, hL, rfl⟩ := x_10 c1 c2
    unfold f_Chains_ofLength
    rw [c_ways h5 c4 hL (fun a ha => hy L a hL ha), mb_bd, mb_bd, mb_cl (by omega), Nat.add_sub_cancel]
    have : suN (fun b => cond ((-1 : Int64).toBitVec.getLsbD b) (wyN T on L b) 0) (lwS T on).length = suN (wyN T on L) (lwS T on).length := suN_cg (fun b hb2 => by
      have hall : ∀ b, b < 64 → (-1 : Int64).toBitVec.getLsbD b = true := by decide
      rw [hall b (by omega)]
      rfl)
    rw [this]
theorem spRow_no {x : Int32} {r : Int64} {k : Int32} (h : ¬ rwOk T on x ∨ r < 0 ∨ k < 0 ∨ ¬ k < x) : spRow T on x r k = -1 := by
  unfold spRow
  by_cases d1 : r < 0
  · rw [if_pos d1]
  rw [if_neg d1]
  by_cases d2 : k < 0
  · rw [if_pos d2]
  rw [if_neg d2]
  by_cases d3 : x ≤ k
  · rw [if_pos d3]
  rw [if_neg d3]
  have d3' : k < x := Int32.not_le.mp d3
  by_cases c1 : x < 1
  · rw [if_pos c1]
  rw [if_neg c1]
  by_cases c2 : 10 < x
  · rw [if_pos c2]
  rw [if_neg c2]
  by_cases c3 : (lwS T on).length < 1
  · rw [if_pos c3]
  rw [if_neg c3]
  by_cases c4 : (lwS T on).length ≤ 64
  · exfalso
    rcases h with z | z | z | z
    · exact z ⟨c1, c2, c3, c4⟩
    · exact d1 z
    · exact d2 z
    · exact z d3'
  · rw [if_neg c4]
theorem c_rowIn (h5 : gI S 9 5 = nI (lwS T on).length) (hl : (lwS T on).length ≤ 64) (hy : ∀ n a, n < 10 → a < (lwS T on).length → gB S 9 4 (64 * n + a) = lN (wyN T on n a)) {L i left : Nat} (hL : L < 10) (hi : i ≤ L) (hle : left < 2 ^ 63) {la : Option Nat} {w : Int64} (hw : ∀ b, b < (lwS T on).length → w.toBitVec.getLsbD b = alO T on la b) (x4 : Int32) : wh (un3 (Chains_member_l33 S (nI (L + 1)) x4 w (nI i))) (lN left, (-1 : Int32), (0 : Int32)) = some (lN (rwIn (alO T on la) (wyN T on (L - i)) left (lwS T on).length).1, oI (rwIn (alO T on la) (wyN T on (L - i)) left (lwS T on).length).2) := by
  have key := wh_ix (f := un3 (Chains_member_l33 S (nI (L + 1)) x4 w (nI i))) (s := (lN left, (-1 : Int32), (0 : Int32))) (lwS T on).length (fun b s => s.2.2 = nI b ∧ s.1 = lN (rwIn (alO T on la) (wyN T on (L - i)) left b).1 ∧ s.2.1 = oI (rwIn (alO T on la) (wyN T on (L - i)) left b).2) (fun r => r = (lN (rwIn (alO T on la) (wyN T on (L - i)) left (lwS T on).length).1, oI (rwIn (alO T on la) (wyN T on (L - i)) left (lwS T on).length).2)) ⟨rfl, rfl, rfl⟩ ?_ ?_
  · obtain ⟨r, h1, h2⟩ := key
    rw [h1, h2]
  · intro b s hb hI
    obtain ⟨x5, x9, x10⟩ := s
    obtain ⟨e1, e2, e3⟩ := hI
    dsimp only at e1 e2 e3
    subst e1 e2 e3
    obtain ⟨r1, r2⟩ := rwIn_l (alO T on la) (wyN T on (L - i)) left b
    have e : rwIn (alO T on la) (wyN T on (L - i)) left (b + 1) = (match (rwIn (alO T on la) (wyN T on (L - i)) left b).2 with | some x => ((rwIn (alO T on la) (wyN T on (L - i)) left b).1, some x) | none => cond (alO T on la b) (if wyN T on (L - i) b ≤ (rwIn (alO T on la) (wyN T on (L - i)) left b).1 then ((rwIn (alO T on la) (wyN T on (L - i)) left b).1 - wyN T on (L - i) b, none) else ((rwIn (alO T on la) (wyN T on (L - i)) left b).1, some b)) ((rwIn (alO T on la) (wyN T on (L - i)) left b).1, none)) := rfl
    cases hx : (rwIn (alO T on la) (wyN T on (L - i)) left b).2 with
    | some x =>
      right
      have hxb := r2 x hx
      refine ⟨(lN (rwIn (alO T on la) (wyN T on (L - i)) left b).1, oI (some x)), ?_, ?_⟩
      · show Chains_member_l33 S (nI (L + 1)) x4 w (nI i) _ (oI (some x)) (nI b) = _
        unfold Chains_member_l33
        rw [h5, if_neg (by rw [mb_le (by omega) (by omega)]; omega), if_neg (by rw [oI_m1 _ (fun y hy => (by cases hy; omega))]; exact fun z => (by cases z))]
      · rw [rwIn_s hx (lwS T on).length (by omega), hx]
    | none =>
      left
      rw [hx] at e
      dsimp only at e
      refine ⟨(lN (rwIn (alO T on la) (wyN T on (L - i)) left (b + 1)).1, oI (rwIn (alO T on la) (wyN T on (L - i)) left (b + 1)).2, nI (b + 1)), ?_, rfl, rfl, rfl⟩
      have w1 := wy_lt hl (show L - i < 10 by omega) b
      have eL : nI (L + 1) - nI i = nI (L - i + 1) := by rw [pk_sub (by omega)]; congr 1; omega
      have tail : ∀ q : Nat, q < 2 ^ 63 → Chains_member_j78_l33 S (nI (L + 1)) x4 (lN (rwIn (alO T on la) (wyN T on (L - i)) left b).1) w (oI none) (nI i) (nI b) (lN q) = (if q ≤ (rwIn (alO T on la) (wyN T on (L - i)) left b).1 then some (.inl (lN ((rwIn (alO T on la) (wyN T on (L - i)) left b).1 - q), oI none, nI (b + 1))) else some (.inl (lN (rwIn (alO T on la) (wyN T on (L - i)) left b).1, nI b, nI (b + 1)))) := by
        intro q hq
        unfold Chains_member_j78_l33 Chains_member_j102_l33
        simp only [mb_nm]
        rw [nI_1]
        by_cases c : q ≤ (rwIn (alO T on la) (wyN T on (L - i)) left b).1
        · rw [if_pos c, if_pos (by rw [lg_cmp_ge, pk_lLE hq (by omega)]; exact c), lN_sub c]
        · rw [if_neg c, if_neg (by rw [lg_cmp_ge, pk_lLE hq (by omega)]; exact c)]
      show Chains_member_l33 S (nI (L + 1)) x4 w (nI i) _ (oI none) (nI b) = _
      unfold Chains_member_l33
      rw [h5, if_neg (by rw [mb_le (by omega) (by omega)]; omega), if_pos (show oI none = -1 from rfl), eL, ix_640 (show L - i < 10 by omega) (by omega), mb_bd, mb_in (by omega) (by decide), mb_gd, mb_cl (by omega), hy (L - i) b (by omega) hb, tail _ w1, show (0 : Int64) = lN 0 from rfl, tail 0 (by decide), if_pos (Nat.zero_le _), Nat.sub_zero, e]
      have hwb := hw b hb
      cases hc : alO T on la b with
      | false =>
        rw [hc] at hwb
        rw [if_pos (by rw [show lN 0 = (0 : Int64) from rfl, sh_64 (by omega)]; exact hwb)]
        rfl
      | true =>
        rw [hc] at hwb
        rw [if_neg (by rw [show lN 0 = (0 : Int64) from rfl, sh_64 (by omega), hwb]; decide)]
        dsimp only [cond_true]
        by_cases c : wyN T on (L - i) b ≤ (rwIn (alO T on la) (wyN T on (L - i)) left b).1
        · rw [if_pos c, if_pos c]
        · rw [if_neg c, if_neg c]
          rfl
  · intro s hI
    obtain ⟨x5, x9, x10⟩ := s
    obtain ⟨e1, e2, e3⟩ := hI
    dsimp only at e1 e2 e3
    subst e1 e2 e3
    refine ⟨_, ?_, rfl⟩
    show Chains_member_l33 S (nI (L + 1)) x4 w (nI i) _ _ (nI (lwS T on).length) = _
    unfold Chains_member_l33
    rw [h5, if_pos (by rw [mb_le (by omega) (by omega)]; omega)]
theorem cc_row (h : cInv T on lg tn tb pl S) (x : Int32) (r : Int64) (k : Int32) : ∃ S', f_Lots_row S x r k = some (spRow T on x r k, S') ∧ cInv T on lg tn tb pl S' ∧ Ph S + kRows S x ≤ Ph S' := by
  obtain ⟨S1, v, h1, hi, hp, hr⟩ := c_rowsThere h x
  refine ⟨S1, ?_, hi, hp⟩
  unfold f_Lots_row Lots_row_j25
  rw [h1, mb_bd2]
  rcases hr with ⟨e, hno⟩ | ⟨e, hok, h6⟩
  · rw [if_pos e, spRow_no (Or.inl hno)]
  rw [if_neg (by rw [e]; decide)]
  by_cases d1 : r < 0
  · rw [if_pos (by rw [lg_cmp_lt]; exact d1), spRow_no (Or.inr (Or.inl d1))]
  rw [if_neg (by rw [lg_cmp_lt]; exact d1)]
  by_cases d2 : k < 0
  · rw [if_pos d2, spRow_no (Or.inr (Or.inr (Or.inl d2)))]
  rw [if_neg d2]
  by_cases d3 : k < x
  · rw [if_pos d3]
    have d3' : ¬ x ≤ k := fun z => absurd (Int32.lt_of_lt_of_le d3 z) Int32.lt_irrefl
    obtain ⟨c1, c2, c3, c4⟩ := hok
    obtain ⟨h5, -, hb, hy⟩ := hi.2.2.2.2.2.2.2.2.2.2.2.2 h6
    unfold spRow
    rw [if_neg d1, if_neg d2, if_neg d3', if_neg c1, if_neg c2, if_neg c3, if_pos c4]
    obtain ⟨L, hL, rfl⟩ := x_10 c1 c2
    obtain ⟨R, hR, rfl⟩ := pk_lOf d1
    obtain ⟨K, hK, rfl⟩ := nI_of d2
    rw [mb_lt (by omega) (by omega)] at d3
    rw [mb_cl (by omega), mb_cl (by omega), pk_lT hR, Int.toNat_natCast]
    unfold f_Chains_member
    have key := wh_ix (f := un4 (Chains_member_l14 S1 (nI (L + 1)) (nI K))) (s := (lN R, (-1 : Int64), (-1 : Int32), (0 : Int32))) (K + 1) (fun i s => s.2.2.2 = nI i ∧ ∃ q, rwTo T on (L + 1) R i = some q ∧ s.1 = lN q.1 ∧ s.2.2.1 = oI q.2 ∧ ∀ b, b < (lwS T on).length → s.2.1.toBitVec.getLsbD b = alO T on q.2 b) (fun q => q = (match rwTo T on (L + 1) R (K + 1) with | none => -1 | some q => oI q.2)) ⟨rfl, (R, none), rfl, rfl, rfl, fun b hb2 => by
        have hall : ∀ b, b < 64 → (-1 : Int64).toBitVec.getLsbD b = true := by decide
        exact hall b (by omega)⟩ ?_ ?_
    · obtain ⟨q, h2, h3⟩ := key
      rw [h2, h3, mb_bd]
      cases rwTo T on (L + 1) R (K + 1) <;> rfl
    · intro i s hi2 hI
      obtain ⟨x5, x7, x9, x10⟩ := s
      obtain ⟨e1, q, hq, e2, e3, hal⟩ := hI
      dsimp only at e1 e2 e3 hal
      subst e1 e2 e3
      obtain ⟨q1, q2⟩ := rwTo_l T on (L + 1) R i q hq
      have h2 := c_rowIn h5 c4 hy hL (show i ≤ L by omega) (show q.1 < 2 ^ 63 by omega) hal (nI K)
      have e : rwTo T on (L + 1) R (i + 1) = (match rwTo T on (L + 1) R i with | none => none | some q => match (rwIn (alO T on q.2) (wyN T on (L + 1 - 1 - i)) q.1 (lwS T on).length).2 with | none => none | some b => some ((rwIn (alO T on q.2) (wyN T on (L + 1 - 1 - i)) q.1 (lwS T on).length).1, some b)) := rfl
      rw [hq] at e
      dsimp only at e
      rw [Nat.add_sub_cancel] at e
      have body : Chains_member_l14 S1 (nI (L + 1)) (nI K) (lN q.1) x7 (oI q.2) (nI i) = Chains_member_j108_l14 S1 (nI (L + 1)) (nI K) (lN (rwIn (alO T on q.2) (wyN T on (L - i)) q.1 (lwS T on).length).1) (oI (rwIn (alO T on q.2) (wyN T on (L - i)) q.1 (lwS T on).length).2) (nI i) := by
        unfold Chains_member_l14
        rw [if_neg (by rw [mb_lt (by omega) (by omega)]; omega), if_neg (by rw [mb_le (by omega) (by omega)]; omega), h2, mb_bd2]
      obtain ⟨r1, r2⟩ := rwIn_l (alO T on q.2) (wyN T on (L - i)) q.1 (lwS T on).length
      cases hb2 : (rwIn (alO T on q.2) (wyN T on (L - i)) q.1 (lwS T on).length).2 with
      | none =>
        right
        rw [hb2] at e body
        refine ⟨-1, ?_, ?_⟩
        · show Chains_member_l14 S1 (nI (L + 1)) (nI K) (lN q.1) x7 (oI q.2) (nI i) = _
          unfold Chains_member_j108_l14 at body
          rw [body, if_pos (show oI none = -1 from rfl)]
        · rw [rwTo_n (show i + 1 ≤ K + 1 by omega) e]
      | some b =>
        left
        have hbl := r2 b hb2
        rw [hb2] at e body
        refine ⟨(lN (rwIn (alO T on q.2) (wyN T on (L - i)) q.1 (lwS T on).length).1, gB S1 9 3 b, nI b, nI (i + 1)), ?_, rfl, _, e, rfl, rfl, fun b2 hb3 => hb b b2 hbl hb3⟩
        show Chains_member_l14 S1 (nI (L + 1)) (nI K) (lN q.1) x7 (oI q.2) (nI i) = _
        unfold Chains_member_j108_l14 at body
        rw [body, if_neg (show ¬ oI (some b) = -1 from nI_m1 (by omega)), show oI (some b) = nI b from rfl, mb_in (by omega) (by decide), mb_gd, mb_nm, mb_nm, mb_cl (by omega), nI_1]
    · intro s hI
      obtain ⟨x5, x7, x9, x10⟩ := s
      obtain ⟨e1, q, hq, e2, e3, hal⟩ := hI
      dsimp only at e1 e2 e3
      subst e1 e2 e3
      refine ⟨oI q.2, ?_, ?_⟩
      · show Chains_member_l14 S1 (nI (L + 1)) (nI K) (lN q.1) x7 (oI q.2) (nI (K + 1)) = _
        unfold Chains_member_l14 Chains_member_j131_l14
        rw [if_pos (by rw [mb_lt (by omega) (by omega)]; omega)]
      · rw [hq]
  · rw [if_neg d3, spRow_no (Or.inr (Or.inr (Or.inr d3)))]
