/-! the reference: settles -/
def agY (LI LA : List Nat) (M M' : St) : Prop := (∀ k, k ∉ LI → gI M' 0 k = gI M 0 k) ∧ (∀ k, k ∉ LA → gA M' 0 k = gA M 0 k) ∧ gB M' = gB M ∧ gL M' = gL M
theorem agY.rf {LI LA : List Nat} (M : St) : agY LI LA M M := ⟨fun _ _ => rfl, fun _ _ => rfl, rfl, rfl⟩
theorem agY.tr {LI LA : List Nat} {A B C : St} (h1 : agY LI LA A B) (h2 : agY LI LA B C) : agY LI LA A C := ⟨fun k hk => (h2.1 k hk).trans (h1.1 k hk), fun k hk => (h2.2.1 k hk).trans (h1.2.1 k hk), h2.2.2.1.trans h1.2.2.1, h2.2.2.2.trans h1.2.2.2⟩
theorem agY.wk {LI LA LI' LA' : List Nat} {A B : St} (h : agY LI LA A B) (h1 : ∀ k, k ∈ LI → k ∈ LI') (h2 : ∀ k, k ∈ LA → k ∈ LA') : agY LI' LA' A B := ⟨fun k hk => h.1 k (fun q => hk (h1 k q)), fun k hk => h.2.1 k (fun q => hk (h2 k q)), h.2.2.1, h.2.2.2⟩
theorem agX.Y {L : List Nat} {A B : St} (h : agX L A B) : agY [] L A B := ⟨fun k _ => by rw [h.1], h.2.2.2, h.2.2.1, h.2.1⟩
theorem agY.pI (M : St) (k : Nat) (v : Int32) {LI LA : List Nat} (hk : k ∈ LI) : agY LI LA M (pI M 0 k v) := ⟨fun q hq => by rw [mb_II, if_neg]; intro z; exact hq (z.2 ▸ hk), fun _ _ => rfl, rfl, rfl⟩
theorem agY.pA (M : St) (k j : Nat) (v : Int32) {LI LA : List Nat} (hk : k ∈ LA) : agY LI LA M (pA M 0 k j v) := ⟨fun _ _ => rfl, (agX.put M k j v hk).2.2.2, rfl, rfl⟩
theorem agY.toT {LI LA : List Nat} {A B : St} (h : agY LI LA A B) (h1 : 18 ∉ LI) (hL : ∀ q ∈ tW, q.1 ∉ LA) (lv : Nat) : agT lv A B := ⟨h.1 18 h1, fun q hq j _ => by rw [h.2.1 q.1 (hL q hq)]⟩
theorem s_l8 : ∀ n, n < 8 → ((nI n &&& 31).toBitVec.smod 32).toNat = n := by decide +kernel
theorem bit_I {a k : Nat} (ha : a < 256) (hk : k < 8) : ((nI a >>> (nI k &&& 31)) &&& 1 = 0) = (a.testBit k = false) := by
  rw [pk_shrN (by omega) _ k (s_l8 k hk), l1, nI_and, l0, Nat.and_one_is_mod, mb_eq (by omega) (by decide), Nat.testBit_eq_decide_div_mod_eq]
  have : a / 2 ^ k % 2 < 2 := Nat.mod_lt _ (by decide)
  refine propext ⟨fun h => decide_eq_false (by omega), fun h => ?_⟩
  have := of_decide_eq_false h
  omega
theorem nI_m1 {b : Nat} (hb : b < 2147483648) : ¬ nI b = -1 := by
  intro h
  have := nI_pos' hb
  rw [h] at this
  exact absurd this (by decide)
theorem or_lt8 {a b : Nat} (ha : a < 256) (hb : b < 256) : a ||| b < 256 := Nat.or_lt_two_pow (n := 8) ha hb
theorem pow_lt8 {k : Nat} (h : k < 8) : 2 ^ k < 256 := by
  have : 2 ^ k < 2 ^ 8 := Nat.pow_lt_pow_right (by decide) h
  omega
/-! how many bits are set -/
def pcB (a : Nat) : Nat → Nat
  | 0 => 0
  | k + 1 => pcB a k + cond (a.testBit k) 1 0
theorem pcB_le (a : Nat) : ∀ k, pcB a k ≤ k
  | 0 => Nat.le_refl 0
  | k + 1 => by
    have h := pcB_le a k
    show pcB a k + cond (a.testBit k) 1 0 ≤ k + 1
    cases a.testBit k
    · show pcB a k + 0 ≤ k + 1; omega
    · show pcB a k + 1 ≤ k + 1; omega
theorem nx_none {T : Tx} {asked : Nat} : ∀ K, nxTo T asked K = none → pcB asked K = K
  | 0, _ => rfl
  | K + 1, h => by
    have h' : cond (asked.testBit K) (nxTo T asked K) (match nxTo T asked K with | none => some K | some b => if tWt T b < tWt T K then some K else some b) = none := h
    cases hb : asked.testBit K with
    | true =>
      rw [hb] at h'
      have := nx_none K h'
      show pcB asked K + cond (asked.testBit K) 1 0 = K + 1
      rw [hb, this]
      rfl
    | false =>
      rw [hb] at h'
      exfalso
      revert h'
      cases nxTo T asked K with
      | none => intro h'; cases h'
      | some b =>
        intro h'
        have h2 : (if tWt T b < tWt T K then some K else some b) = none := h'
        by_cases c : tWt T b < tWt T K
        · rw [if_pos c] at h2; cases h2
        · rw [if_neg c] at h2; cases h2
theorem nx_some {T : Tx} {asked : Nat} : ∀ K b, nxTo T asked K = some b → b < K ∧ asked.testBit b = false
  | 0, b, h => by cases h
  | K + 1, b, h => by
    have h' : cond (asked.testBit K) (nxTo T asked K) (match nxTo T asked K with | none => some K | some b => if tWt T b < tWt T K then some K else some b) = some b := h
    cases hb : asked.testBit K with
    | true =>
      rw [hb] at h'
      obtain ⟨h1, h2⟩ := nx_some K b h'
      exact ⟨by omega, h2⟩
    | false =>
      rw [hb] at h'
      cases hn : nxTo T asked K with
      | none =>
        rw [hn] at h'
        cases h'
        exact ⟨by omega, hb⟩
      | some c =>
        rw [hn] at h'
        have h2 : (if tWt T c < tWt T K then some K else some c) = some b := h'
        by_cases q : tWt T c < tWt T K
        · rw [if_pos q] at h2
          cases h2
          exact ⟨by omega, hb⟩
        · rw [if_neg q] at h2
          have h5 : c = b := Option.some.inj h2
          rw [h5] at hn
          obtain ⟨h3, h4⟩ := nx_some K b hn
          exact ⟨by omega, h4⟩
theorem pcB_or {a b : Nat} (h : a.testBit b = false) : ∀ K, pcB (a ||| 2 ^ b) K = pcB a K + cond (decide (b < K)) 1 0
  | 0 => by simp [pcB]
  | K + 1 => by
    have ih := pcB_or h K
    show pcB (a ||| 2 ^ b) K + cond ((a ||| 2 ^ b).testBit K) 1 0 = pcB a K + cond (a.testBit K) 1 0 + cond (decide (b < K + 1)) 1 0
    rw [ih, Nat.testBit_or, Nat.testBit_two_pow]
    by_cases e : b = K
    · subst e
      rw [h]
      simp
    · have e1 : decide (b = K) = false := decide_eq_false e
      rw [e1, Bool.or_false]
      by_cases l : b < K
      · rw [decide_eq_true l, decide_eq_true (show b < K + 1 by omega)]
        simp only [cond_true]
        omega
      · rw [decide_eq_false l, decide_eq_false (show ¬ b < K + 1 by omega)]
        simp only [cond_false]
        omega
/-- the inner search -/
theorem m_next {lv : Nat} {T : Tx} {M : St} (hw : wfT T) (h : MT lv T M) {asked : Nat} (ha : asked < 256) (x1 x3 x4 : Int32) : wh (un2 (Model_settles_l42 M x1 (nI asked) x3 x4)) ((-1 : Int32), (0 : Int32)) = some (match nxTo T asked (tNt T 1) with | none => -1 | some b => nI b) := by
  have n8 := hw.2.2.2.1 1 (by decide)
  have hlv := h.1
  have key := wh_ix (f := un2 (Model_settles_l42 M x1 (nI asked) x3 x4)) (s := ((-1 : Int32), (0 : Int32))) (tNt T 1) (fun k q => q.2 = nI k ∧ q.1 = (match nxTo T asked k with | none => -1 | some b => nI b)) (fun r => r = (match nxTo T asked (tNt T 1) with | none => -1 | some b => nI b)) ⟨rfl, rfl⟩ ?_ ?_
  · obtain ⟨r, h1, h2⟩ := key
    rw [h1, h2]
  · intro k q hk hI
    obtain ⟨x5, x6⟩ := q
    obtain ⟨e1, e2⟩ := hI
    dsimp only at e1 e2
    subst e1
    left
    have goal : ∃ t, Model_settles_l42 M x1 (nI asked) x3 x4 x5 (nI k) = some (.inl t) ∧ t.2 = nI (k + 1) ∧ t.1 = (match nxTo T asked (k + 1) with | none => -1 | some b => nI b) := by
      have ek : nxTo T asked (k + 1) = cond (asked.testBit k) (nxTo T asked k) (match nxTo T asked k with | none => some k | some b => if tWt T b < tWt T k then some k else some b) := rfl
      unfold Model_settles_l42
      rw [l1, m_tellsOf h (by decide), mb_bd, if_neg (by rw [mb_le (by omega) (by omega)]; omega)]
      rw [← l1]
      cases hb : asked.testBit k with
      | true =>
        rw [if_neg (by rw [bit_I ha (by omega), hb]; decide)]
        refine ⟨(x5, nI (k + 1)), ?_, rfl, ?_⟩
        · unfold Model_settles_j98_l42
          rw [mb_nm, nI_1]
        · rw [ek, hb]; exact e2
      | false =>
        rw [if_pos (by rw [bit_I ha (by omega), hb])]
        rw [hb] at ek
        cases hn : nxTo T asked k with
        | none =>
          rw [hn] at e2 ek
          have e2' : x5 = -1 := e2
          rw [if_pos e2']
          refine ⟨(nI k, nI (k + 1)), ?_, rfl, ?_⟩
          · unfold Model_settles_j94_l42 Model_settles_j98_l42
            rw [mb_nm, nI_1]
          · rw [ek]; rfl
        | some b =>
          rw [hn] at e2 ek
          have e2' : x5 = nI b := e2
          obtain ⟨hbk, -⟩ := nx_some k b hn
          have w1 := hw.2.2.2.2.1 k hk
          have w2 := hw.2.2.2.2.1 b (by omega)
          rw [e2', if_neg (nI_m1 (by omega)), l1, m_condOf h, mb_bd, mb_in (by omega) (by decide), mb_gd, m_condOf h, mb_bd, mb_in (by omega) (by decide), mb_gd, mb_cl (by omega), mb_cl (by omega), h.2.2.2.2.2 k hk, h.2.2.2.2.2 b (by omega)]
          by_cases c : tWt T k ≤ tWt T b
          · rw [if_pos (by rw [mb_le (by omega) (by omega)]; exact c)]
            refine ⟨(nI b, nI (k + 1)), ?_, rfl, ?_⟩
            · unfold Model_settles_j98_l42
              rw [mb_nm, nI_1]
            · rw [ek]
              show nI b = (match (if tWt T b < tWt T k then some k else some b) with | none => -1 | some b => nI b)
              rw [if_neg (by omega)]
          · rw [if_neg (by rw [mb_le (by omega) (by omega)]; exact c)]
            refine ⟨(nI k, nI (k + 1)), ?_, rfl, ?_⟩
            · unfold Model_settles_j94_l42 Model_settles_j98_l42
              rw [mb_nm, nI_1]
            · rw [ek]
              show nI k = (match (if tWt T b < tWt T k then some k else some b) with | none => -1 | some b => nI b)
              rw [if_pos (by omega)]
    exact goal
  · intro q hI
    obtain ⟨x5, x6⟩ := q
    obtain ⟨e1, e2⟩ := hI
    dsimp only at e1 e2
    subst e1
    refine ⟨x5, ?_, e2⟩
    show Model_settles_l42 M x1 (nI asked) x3 x4 x5 (nI (tNt T 1)) = _
    unfold Model_settles_l42
    rw [l1, m_tellsOf h (by decide), mb_bd, if_pos (by rw [mb_le (by omega) (by omega)]; omega)]
theorem BT.ag {T : Tx} {M M' : St} {LI LA : List Nat} (h : BT T M) (a : agY LI LA M M') (h1 : 44 ∉ LI) (h2 : 46 ∉ LA ∧ 47 ∉ LA ∧ 48 ∉ LA) : BT T M' := by
  refine ⟨by rw [a.1 44 h1]; exact h.1, fun i hi => ?_⟩
  rw [a.2.1 46 h2.1, a.2.1 47 h2.2.1, a.2.1 48 h2.2.2]
  exact h.2 i hi
theorem ke_lt {T : Tx} (hw : wfT T) (laws : Nat) : ∀ n, (keTo T laws n).1 < 256 ∧ (keTo T laws n).2 < 256
  | 0 => ⟨by show 0 < 256; omega, by show 0 < 256; omega⟩
  | n + 1 => by
    obtain ⟨h1, h2⟩ := ke_lt hw laws n
    have n8 := hw.2.2.2.1 1 (by decide)
    show (match nxTo T (keTo T laws n).2 (tNt T 1) with | none => keTo T laws n | some b => (cond (anyS T laws ((keTo T laws n).1 ||| 2 ^ b)) ((keTo T laws n).1 ||| 2 ^ b) (keTo T laws n).1, (keTo T laws n).2 ||| 2 ^ b)).1 < 256 ∧ (match nxTo T (keTo T laws n).2 (tNt T 1) with | none => keTo T laws n | some b => (cond (anyS T laws ((keTo T laws n).1 ||| 2 ^ b)) ((keTo T laws n).1 ||| 2 ^ b) (keTo T laws n).1, (keTo T laws n).2 ||| 2 ^ b)).2 < 256
    cases hn : nxTo T (keTo T laws n).2 (tNt T 1) with
    | none => exact ⟨h1, h2⟩
    | some b =>
      have hb := (nx_some _ _ hn).1
      have p8 := pow_lt8 (show b < 8 by omega)
      refine ⟨?_, or_lt8 h2 p8⟩
      show cond (anyS T laws ((keTo T laws n).1 ||| 2 ^ b)) ((keTo T laws n).1 ||| 2 ^ b) (keTo T laws n).1 < 256
      cases anyS T laws ((keTo T laws n).1 ||| 2 ^ b)
      · exact h1
      · exact or_lt8 h1 p8
theorem keS_lt {T : Tx} (hw : wfT T) (laws : Nat) : keS T laws < 256 := by
  unfold keS
  cases anyS T laws 0
  · show 0 < 256; omega
  · exact (ke_lt hw laws _).1
theorem ke_pc {T : Tx} (hw : wfT T) (laws : Nat) : ∀ n, n ≤ tNt T 1 → pcB (keTo T laws n).2 (tNt T 1) = n
  | 0, _ => by
    have : ∀ K, pcB 0 K = 0 := by
      intro K
      induction K with
      | zero => rfl
      | succ K ih => show pcB 0 K + cond ((0 : Nat).testBit K) 1 0 = 0; rw [ih, Nat.zero_testBit]; rfl
    exact this _
  | n + 1, hn => by
    have ih := ke_pc hw laws n (by omega)
    show pcB (match nxTo T (keTo T laws n).2 (tNt T 1) with | none => keTo T laws n | some b => (cond (anyS T laws ((keTo T laws n).1 ||| 2 ^ b)) ((keTo T laws n).1 ||| 2 ^ b) (keTo T laws n).1, (keTo T laws n).2 ||| 2 ^ b)).2 (tNt T 1) = n + 1
    cases hx : nxTo T (keTo T laws n).2 (tNt T 1) with
    | none =>
      have := nx_none _ hx
      omega
    | some b =>
      obtain ⟨hb, ht⟩ := nx_some _ _ hx
      show pcB ((keTo T laws n).2 ||| 2 ^ b) (tNt T 1) = n + 1
      rw [pcB_or ht, ih, decide_eq_true hb]
      rfl
/-- the loop over the soft ones -/
theorem m_keeps {lv : Nat} {T : Tx} {M : St} (hw : wfT T) (h : MT lv T M) (hb : BT T M) {laws : Nat} (hl : laws < 256) (hk : gI M 0 53 = 0) : ∃ M', wh (un3 (Model_settles_l22 (nI laws) (b2i (anyS T laws 0)))) (M, (0 : Int32), (0 : Int32)) = some M' ∧ agY [53] [] M M' ∧ gI M' 0 53 = nI (keS T laws) := by
  have n8 := hw.2.2.2.1 1 (by decide)
  cases hany : anyS T laws 0 with
  | false =>
    refine ⟨M, ?_, agY.rf M, ?_⟩
    · refine wh_inr ?_
      show Model_settles_l22 (nI laws) (b2i false) M 0 0 = _
      unfold Model_settles_l22
      rw [l1, m_tellsOf h (by decide), mb_bd]
      by_cases c : nI (tNt T 1) ≤ 0
      · rw [if_pos c]
      · rw [if_neg c, if_pos (by rfl)]
    · rw [hk]
      unfold keS
      rw [hany]
      rfl
  | true =>
    have key := wh_ix (f := un3 (Model_settles_l22 (nI laws) (b2i true))) (s := (M, (0 : Int32), (0 : Int32))) (tNt T 1) (fun n q => q.2.2 = nI n ∧ q.2.1 = nI (keTo T laws n).2 ∧ agY [53] [] M q.1 ∧ gI q.1 0 53 = nI (keTo T laws n).1) (fun M' => agY [53] [] M M' ∧ gI M' 0 53 = nI (keS T laws)) ⟨rfl, rfl, agY.rf M, hk⟩ ?_ ?_
    · exact key
    · intro n q hn hI
      obtain ⟨M1, x2, x4⟩ := q
      obtain ⟨e1, e2, a1, k1⟩ := hI
      dsimp only at e1 e2 a1 k1
      subst e1 e2
      have hM1 := h.ag hw (a1.toT (by decide) (by decide) lv)
      have hb1 := hb.ag a1 (by decide) ⟨by decide, by decide, by decide⟩
      obtain ⟨z1, z2⟩ := ke_lt hw laws n
      have pc := ke_pc hw laws n (by omega)
      cases hx : nxTo T (keTo T laws n).2 (tNt T 1) with
      | none =>
        have := nx_none _ hx
        omega
      | some b =>
        obtain ⟨hbn, ht⟩ := nx_some _ _ hx
        have p8 := pow_lt8 (show b < 8 by omega)
        have ek : keTo T laws (n + 1) = (cond (anyS T laws ((keTo T laws n).1 ||| 2 ^ b)) ((keTo T laws n).1 ||| 2 ^ b) (keTo T laws n).1, (keTo T laws n).2 ||| 2 ^ b) := by
          show (match nxTo T (keTo T laws n).2 (tNt T 1) with | none => keTo T laws n | some b => (cond (anyS T laws ((keTo T laws n).1 ||| 2 ^ b)) ((keTo T laws n).1 ||| 2 ^ b) (keTo T laws n).1, (keTo T laws n).2 ||| 2 ^ b)) = _
          rw [hx]
        have hnx := m_next hw hM1 z2 (nI laws) (b2i true) (nI n)
        rw [hx] at hnx
        left
        have body : Model_settles_l22 (nI laws) (b2i true) M1 (nI (keTo T laws n).2) (nI n) = (if b2i (anyS T laws ((keTo T laws n).1 ||| 2 ^ b)) = 0 then (Model_settles_j141_l22 M1 (nI laws) (nI ((keTo T laws n).2 ||| 2 ^ b)) (b2i true) (nI n)) else (nm (pI M1 0 53 (nI ((keTo T laws n).1 ||| 2 ^ b))) fun S_29 => Model_settles_j141_l22 S_29 (nI laws) (nI ((keTo T laws n).2 ||| 2 ^ b)) (b2i true) (nI n))) := by
          unfold Model_settles_l22
          rw [show f_Model_tellsOf M1 1 = some (nI (tNt T 1)) from m_tellsOf hM1 (s := 1) (by decide), mb_bd, if_neg (by rw [mb_le (by omega) (by omega)]; omega), if_neg (by decide), hnx, mb_bd]
          show (nm (nI (keTo T laws n).2 ||| ((1 : Int32) <<< (nI b &&& 31))) fun x2_25 => _) = _
          rw [mb_nm, sh_bit b (by omega), nI_or, k1, nI_or, m_isAny hw hb1 hl (or_lt8 z1 p8), mb_bd]
        cases hc : anyS T laws ((keTo T laws n).1 ||| 2 ^ b) with
        | false =>
          refine ⟨(M1, nI ((keTo T laws n).2 ||| 2 ^ b), nI (n + 1)), ?_, rfl, ?_, a1, ?_⟩
          · show Model_settles_l22 (nI laws) (b2i true) M1 (nI (keTo T laws n).2) (nI n) = _
            rw [body, hc, if_pos (by rfl)]
            unfold Model_settles_j141_l22
            rw [mb_nm, nI_1]
          · rw [ek]
          · rw [ek, hc]; exact k1
        | true =>
          refine ⟨(pI M1 0 53 (nI ((keTo T laws n).1 ||| 2 ^ b)), nI ((keTo T laws n).2 ||| 2 ^ b), nI (n + 1)), ?_, rfl, ?_, a1.tr (agY.pI M1 53 _ (by decide)), ?_⟩
          · show Model_settles_l22 (nI laws) (b2i true) M1 (nI (keTo T laws n).2) (nI n) = _
            rw [body, hc, if_neg (by decide), mb_nm]
            unfold Model_settles_j141_l22
            rw [mb_nm, nI_1]
          · rw [ek]
          · rw [ek, hc, mb_II, if_pos ⟨rfl, rfl⟩]; rfl
    · intro q hI
      obtain ⟨M1, x2, x4⟩ := q
      obtain ⟨e1, e2, a1, k1⟩ := hI
      dsimp only at e1 e2 a1 k1
      subst e1 e2
      have hM1 := h.ag hw (a1.toT (by decide) (by decide) lv)
      refine ⟨M1, ?_, a1, ?_⟩
      · show Model_settles_l22 (nI laws) (b2i true) M1 (nI (keTo T laws (tNt T 1)).2) (nI (tNt T 1)) = _
        unfold Model_settles_l22
        rw [l1, m_tellsOf hM1 (by decide), mb_bd, if_pos (by rw [mb_le (by omega) (by omega)]; omega)]
      · rw [k1]
        unfold keS
        rw [hany]
        rfl
