/-! the reference: how it holds the live text, and its small methods over it -/
/-- all but the arrays of L are the same -/
def agX (L : List Nat) (M M' : St) : Prop := gI M' = gI M ∧ gL M' = gL M ∧ gB M' = gB M ∧ ∀ k, k ∉ L → gA M' 0 k = gA M 0 k
theorem agX.rf {L : List Nat} (M : St) : agX L M M := ⟨rfl, rfl, rfl, fun _ _ => rfl⟩
theorem agX.tr {L : List Nat} {A B C : St} (h1 : agX L A B) (h2 : agX L B C) : agX L A C := ⟨h2.1.trans h1.1, h2.2.1.trans h1.2.1, h2.2.2.1.trans h1.2.2.1, fun k hk => (h2.2.2.2 k hk).trans (h1.2.2.2 k hk)⟩
theorem agX.wk {L L' : List Nat} {A B : St} (h : agX L A B) (hl : ∀ k, k ∈ L → k ∈ L') : agX L' A B := ⟨h.1, h.2.1, h.2.2.1, fun k hk => h.2.2.2 k (fun q => hk (hl k q))⟩
theorem agX.put (M : St) (k j : Nat) (v : Int32) {L : List Nat} (hk : k ∈ L) : agX L M (pA M 0 k j v) := by
  refine ⟨rfl, rfl, rfl, fun q hq => ?_⟩
  funext c
  rw [mb_AA, if_neg]
  intro z
  exact hq (z.2.1 ▸ hk)
/-- the text of the live side is the same -/
def tW : List (Nat × Nat) := [(20, 1), (22, 6), (23, 6), (25, 5), (26, 40), (27, 40), (28, 40), (29, 40), (30, 40), (32, 200), (33, 200), (34, 200), (35, 200), (36, 200), (37, 200), (39, 500), (40, 500)]
def agT (lv : Nat) (M M' : St) : Prop := gI M' 0 18 = gI M 0 18 ∧ ∀ q ∈ tW, ∀ j, j < q.2 → gA M' 0 q.1 (q.2 * lv + j) = gA M 0 q.1 (q.2 * lv + j)
theorem agT.rf (lv : Nat) (M : St) : agT lv M M := ⟨rfl, fun _ _ _ _ => rfl⟩
theorem agT.tr {lv : Nat} {A B C : St} (h1 : agT lv A B) (h2 : agT lv B C) : agT lv A C := ⟨h2.1.trans h1.1, fun q hq j hj => (h2.2 q hq j hj).trans (h1.2 q hq j hj)⟩
theorem agX.toT {L : List Nat} {A B : St} (h : agX L A B) (hL : ∀ q ∈ tW, q.1 ∉ L) (lv : Nat) : agT lv A B := ⟨by rw [h.1], fun q hq j _ => by rw [h.2.2.2 q.1 (hL q hq)]⟩
def MT (lv : Nat) (T : Tx) (M : St) : Prop := lv < 2 ∧ gI M 0 18 = nI lv ∧ gA M 0 20 lv = nI (tNf T) ∧ (∀ f, f < tNf T → gA M 0 22 (6 * lv + f) = nI (tFr T f) ∧ gA M 0 23 (6 * lv + f) = nI (tMa T f)) ∧ (∀ s, s < 5 → gA M 0 25 (5 * lv + s) = nI (tNt T s)) ∧ (∀ k, k < tNt T 1 → gA M 0 26 (40 * lv + (8 + k)) = nI (tWt T k))
def HO (lv : Nat) (T : Tx) (M : St) : Prop := ∀ M1, agT lv M M1 → ∀ s k, s < 5 → k < tNt T s → ∃ M2, f_Model_holds M1 (nI (40 * lv + (8 * s + k))) = some (b2i (tCd T s k (gA M1 0 49) (gA M1 0 50)), M2) ∧ agX [51] M1 M2
def TE (lv : Nat) (T : Tx) (M : St) : Prop := ∀ M1, agT lv M M1 → ∀ k, k < tNt T 4 → ∃ M2, f_Model_termOf M1 (gA M1 0 29 (40 * lv + (32 + k))) (gA M1 0 30 (40 * lv + (32 + k))) = some (tAm T k (gA M1 0 49), M2) ∧ agX [51] M1 M2
theorem MT.ag {lv : Nat} {T : Tx} {M M' : St} (hw : wfT T) (h : MT lv T M) (a : agT lv M M') : MT lv T M' := by
  obtain ⟨h1, h2, h3, h4, h5, h6⟩ := h
  obtain ⟨n6, -, -, n8, -, -⟩ := hw
  have g : ∀ q ∈ tW, ∀ j, j < q.2 → gA M' 0 q.1 (q.2 * lv + j) = gA M 0 q.1 (q.2 * lv + j) := a.2
  refine ⟨h1, by rw [a.1]; exact h2, ?_, fun f hf => ⟨?_, ?_⟩, fun s hs => ?_, fun k hk => ?_⟩
  · have := g (20, 1) (by decide) 0 (by decide)
    simp only [Nat.one_mul, Nat.add_zero] at this
    rw [this]; exact h3
  · rw [g (22, 6) (by decide) f (by show f < 6; omega)]; exact (h4 f hf).1
  · rw [g (23, 6) (by decide) f (by show f < 6; omega)]; exact (h4 f hf).2
  · rw [g (25, 5) (by decide) s hs]; exact h5 s hs
  · have := n8 1 (by decide)
    rw [g (26, 40) (by decide) (8 + k) (by show 8 + k < 40; omega)]; exact h6 k hk
theorem HO.ag {lv : Nat} {T : Tx} {M M' : St} (h : HO lv T M) (a : agT lv M M') : HO lv T M' := fun M1 h1 => h M1 (a.tr h1)
theorem TE.ag {lv : Nat} {T : Tx} {M M' : St} (h : TE lv T M) (a : agT lv M M') : TE lv T M' := fun M1 h1 => h M1 (a.tr h1)
theorem l5 : (5 : Int32) = nI 5 := rfl
theorem l6 : (6 : Int32) = nI 6 := rfl
theorem l8 : (8 : Int32) = nI 8 := rfl
theorem l1 : (1 : Int32) = nI 1 := rfl
theorem l0 : (0 : Int32) = nI 0 := rfl
theorem m_tellsOf {lv : Nat} {T : Tx} {M : St} (h : MT lv T M) {s : Nat} (hs : s < 5) : f_Model_tellsOf M (nI s) = some (nI (tNt T s)) := by
  obtain ⟨h1, h2, h3, h4, h5, h6⟩ := h
  unfold f_Model_tellsOf
  rw [h2, l5, pk_mul, nI_add, mb_in (by omega) (by decide), mb_gd, mb_cl (by omega), h5 s hs]
theorem m_condOf {lv : Nat} {T : Tx} {M : St} (h : MT lv T M) (s k : Nat) : f_Model_condOf M (nI s) (nI k) = some (nI (40 * lv + (8 * s + k))) := by
  unfold f_Model_condOf
  rw [h.2.1, l5, l8, pk_mul, nI_add, pk_mul, nI_add]
  congr 2
  omega
def SD (T : Tx) (M : St) : Prop := ∀ f, f < tNf T → gA M 0 45 f = nI (tSd T f)
theorem nz_nI {n : Nat} (h0 : 0 < n) (h : n < 2147483648) : nz (nI n) = true := decide_eq_true (nI_ne0 h0 h)
theorem m_valueOf {lv : Nat} {T : Tx} {M : St} (hw : wfT T) (h : MT lv T M) (hd : SD T M) {i f : Nat} (hi : i < 32768) (hf : f < tNf T) : f_Model_valueOf M (nI i) (nI f) = some (nI (tVa T i f)) := by
  have n6 := hw.1
  have p1 := tSd_pos hw hf
  have p2 := tSd_le hw hf
  have p3 := hw.2.2.1
  have p4 := hw.2.1 f hf
  have hlv := h.1
  unfold f_Model_valueOf
  rw [h.2.1, l6, pk_mul, nI_add, mb_in (by omega) (by decide), mb_gd, mb_in (by omega) (by decide), mb_gd, mb_cl (show f < 2147483648 by omega), hd f hf, nz_nI (by omega) (by omega), mb_gd, mb_gd, mb_cl (by omega), (h.2.2.2.1 f hf).2, nz_nI (by omega) (by omega), mb_gd, (h.2.2.2.1 f hf).1]
  have hq : i / tSd T f ≤ i := Nat.div_le_self _ _
  rw [pk_div (by omega) (by omega) (by omega), pk_rem (by omega) (by omega) (by omega), nI_add]
  rfl
theorem m_looksAt {lv : Nat} {T : Tx} {M : St} (hw : wfT T) (h : MT lv T M) (hd : SD T M) {i : Nat} (hi : i < 32768) : ∃ M', f_Model_looksAt M (nI i) = some M' ∧ agX [49] M M' ∧ ∀ f, f < tNf T → gA M' 0 49 f = tEv T i f := by
  have n6 := hw.1
  have key := wh_ix (f := un2 (Model_looksAt_l2 (nI i))) (s := (M, (0 : Int32))) (tNf T) (fun j s => s.2 = nI j ∧ agX [49] M s.1 ∧ ∀ f, f < j → gA s.1 0 49 f = tEv T i f) (fun M' => agX [49] M M' ∧ ∀ f, f < tNf T → gA M' 0 49 f = tEv T i f)
    ⟨rfl, agX.rf M, fun f hf => absurd hf (Nat.not_lt_zero f)⟩ ?_ ?_
  · obtain ⟨M', h1, h2⟩ := key
    refine ⟨M', ?_, h2⟩
    unfold f_Model_looksAt
    rw [h1]
    rfl
  · intro j s hj hI
    obtain ⟨M1, x2⟩ := s
    obtain ⟨e1, a1, v1⟩ := hI
    dsimp only at e1 a1 v1
    subst e1
    have aT1 : agT lv M M1 := a1.toT (by decide) lv
    have hM1 := h.ag hw aT1
    have hd1 : SD T M1 := fun f hf => by rw [a1.2.2.2 45 (by decide)]; exact hd f hf
    left
    refine ⟨(pA M1 0 49 j (nI (tVa T i j)), nI (j + 1)), ?_, rfl, a1.tr (agX.put M1 49 j _ (by decide)), ?_⟩
    · show Model_looksAt_l2 (nI i) M1 (nI j) = _
      unfold Model_looksAt_l2
      have hlv := h.1
      rw [hM1.2.1, mb_in (by omega) (by decide), mb_gd, mb_cl (by omega), hM1.2.2.1, if_neg (by rw [mb_le (by omega) (by omega)]; omega), m_valueOf hw hM1 hd1 hi hj, mb_bd, mb_in (by omega) (by decide), mb_gd, mb_nm, mb_nm, mb_cl (by omega), nI_1]
    · intro f hf
      rw [mb_AA]
      by_cases e : f = j
      · rw [if_pos ⟨rfl, rfl, e⟩, e]; rfl
      · rw [if_neg (fun q => e q.2.2)]; exact v1 f (by omega)
  · intro s hI
    obtain ⟨M1, x2⟩ := s
    obtain ⟨e1, a1, v1⟩ := hI
    dsimp only at e1 a1 v1
    subst e1
    have hM1 := h.ag hw (a1.toT (by decide) lv)
    refine ⟨M1, ?_, a1, v1⟩
    show Model_looksAt_l2 (nI i) M1 (nI (tNf T)) = _
    unfold Model_looksAt_l2
    have hlv := h.1
    rw [hM1.2.1, mb_in (by omega) (by decide), mb_gd, mb_cl (by omega), hM1.2.2.1, if_pos (by rw [mb_le (by omega) (by omega)]; omega)]
theorem m_bitsOf {lv : Nat} {T : Tx} {M : St} (hw : wfT T) (h : MT lv T M) (hh : HO lv T M) {i s : Nat} (hs : s < 3) (hv : ∀ f, f < tNf T → gA M 0 49 f = tEv T i f) : ∃ M', f_Model_bitsOf M (nI s) = some (nI (bN T s i), M') ∧ agX [51] M M' := by
  have n8 := hw.2.2.2.1 s (by omega)
  have key := wh_ix (f := un3 (Model_bitsOf_l4 (nI s))) (s := (M, (0 : Int32), (0 : Int32))) (tNt T s) (fun k q => q.2.1 = nI (bK T s i k) ∧ q.2.2 = nI k ∧ agX [51] M q.1) (fun r => r.2 = nI (bN T s i) ∧ agX [51] M r.1)
    ⟨rfl, rfl, agX.rf M⟩ ?_ ?_
  · obtain ⟨⟨M', v⟩, h1, h2, h3⟩ := key
    dsimp only at h2 h3
    subst h2
    refine ⟨M', ?_, h3⟩
    unfold f_Model_bitsOf
    rw [h1]
    rfl
  · intro k q hk hI
    obtain ⟨M1, x2, x3⟩ := q
    obtain ⟨e1, e2, a1⟩ := hI
    dsimp only at e1 e2 a1
    subst e1 e2
    have aT1 : agT lv M M1 := a1.toT (by decide) lv
    have hM1 := h.ag hw aT1
    obtain ⟨M2, h2, a2⟩ := hh M1 aT1 s k (by omega) hk
    have ec : tCd T s k (gA M1 0 49) (gA M1 0 50) = tCd T s k (tEv T i) (tEv T i) := hw.2.2.2.2.2.1 s k (by omega) hk _ _ _ _ (fun f hf => by rw [a1.2.2.2 49 (by decide)]; exact hv f hf) (fun e => by omega)
    rw [ec] at h2
    left
    refine ⟨(M2, nI (bK T s i (k + 1)), nI (k + 1)), ?_, rfl, rfl, a1.tr a2⟩
    show Model_bitsOf_l4 (nI s) M1 (nI (bK T s i k)) (nI k) = _
    unfold Model_bitsOf_l4
    rw [m_tellsOf hM1 (by omega), mb_bd, if_neg (by rw [mb_le (by omega) (by omega)]; omega), m_condOf hM1, mb_bd, h2, mb_bd2]
    have hb := bK_lt T s i k
    cases hc : tCd T s k (tEv T i) (tEv T i) with
    | false =>
      rw [if_pos (by rfl)]
      unfold Model_bitsOf_j32_l4
      rw [mb_nm, nI_1]
      have : bK T s i (k + 1) = bK T s i k := by
        show bK T s i k + cond (tCd T s k (tEv T i) (tEv T i)) (2 ^ k) 0 = _
        rw [hc]
        rfl
      rw [this]
    | true =>
      rw [if_neg (by decide), mb_nm, or_bit hb (by omega)]
      unfold Model_bitsOf_j32_l4
      rw [mb_nm, nI_1]
      have : bK T s i (k + 1) = bK T s i k + 2 ^ k := by
        show bK T s i k + cond (tCd T s k (tEv T i) (tEv T i)) (2 ^ k) 0 = _
        rw [hc]
        rfl
      rw [this]
  · intro q hI
    obtain ⟨M1, x2, x3⟩ := q
    obtain ⟨e1, e2, a1⟩ := hI
    dsimp only at e1 e2 a1
    subst e1 e2
    have hM1 := h.ag hw (a1.toT (by decide) lv)
    refine ⟨(M1, nI (bN T s i)), ?_, rfl, a1⟩
    show Model_bitsOf_l4 (nI s) M1 (nI (bK T s i (tNt T s))) (nI (tNt T s)) = _
    unfold Model_bitsOf_l4
    rw [m_tellsOf hM1 (by omega), mb_bd, if_pos (by rw [mb_le (by omega) (by omega)]; omega)]
    rfl
