/-! the class: marks -/
def wI (T : Tx) (s i k p w : Nat) : Prop := w < 256 ∧ ∀ j, w.testBit j = (if j < k then tCd T s j (tEv T i) (tEv T i) else p.testBit j)
theorem wI_skip {T : Tx} {s i k p w : Nat} (h : wI T s i k p w) (hk : p.testBit k = tCd T s k (tEv T i) (tEv T i)) : wI T s i (k + 1) p w := ⟨h.1, fun j => by
  rw [h.2 j]
  by_cases c : j < k
  · rw [if_pos c, if_pos (by omega)]
  · rw [if_neg c]
    by_cases e : j = k
    · rw [if_pos (by omega), e, hk]
    · rw [if_neg (by omega)]⟩
theorem wI_set {T : Tx} {s i k p w : Nat} (h : wI T s i k p w) (hk8 : k < 8) (hk : tCd T s k (tEv T i) (tEv T i) = true) : wI T s i (k + 1) p (w ||| 2 ^ k) := ⟨or_lt8 h.1 (pow_lt8 hk8), fun j => by
  rw [tb_or_pow, h.2 j]
  by_cases e : k = j
  · subst e
    rw [decide_eq_true rfl, Bool.or_true, if_pos (Nat.lt_succ_self k), hk]
  · rw [decide_eq_false e, Bool.or_false]
    by_cases c : j < k
    · rw [if_pos c, if_pos (by omega)]
    · rw [if_neg c, if_neg (by omega)]⟩
theorem wI_clr {T : Tx} {s i k p w : Nat} (h : wI T s i k p w) (hk : tCd T s k (tEv T i) (tEv T i) = false) : wI T s i (k + 1) p (df w (2 ^ k)) := ⟨df_le8 _ h.1, fun j => by
  rw [df_tb, Nat.testBit_two_pow, h.2 j]
  by_cases e : k = j
  · subst e
    rw [decide_eq_true rfl, if_pos (Nat.lt_succ_self k), hk]
    simp
  · rw [decide_eq_false e]
    by_cases c : j < k
    · rw [if_pos c, if_pos (by omega)]; simp
    · rw [if_neg c, if_neg (by omega)]; simp⟩
theorem wI_end {T : Tx} {s i p w : Nat} (h : wI T s i (tNt T s) p w) (hp : p < 2 ^ tNt T s) : w = bN T s i := tb_ext (fun j => by
  rw [h.2 j, bN_tb]
  by_cases c : j < tNt T s
  · rw [if_pos c, decide_eq_true c, Bool.true_and]
  · rw [if_neg c, decide_eq_false c, Bool.false_and]
    exact Nat.testBit_lt_two_pow (Nat.lt_of_lt_of_le hp (Nat.pow_le_pow_right (by decide) (by omega))))
theorem shl_lt {w s : Nat} (hw : w < 256) (hs : s < 3) : w <<< (8 * s) < 16777216 := by
  rw [Nat.shiftLeft_eq]
  have : 2 ^ (8 * s) ≤ 2 ^ 16 := Nat.pow_le_pow_right (by decide) (by omega)
  have h2 : w * 2 ^ (8 * s) ≤ 255 * 2 ^ 16 := Nat.mul_le_mul (by omega) this
  omega
theorem c_mark1 {T : Tx} {S : St} (hw : wfT T) (hk : CK T S) {s i p : Nat} (hs : s < 3) (hp : p < 2 ^ tNt T s) (hv : ∀ f, f < tNf T → gA S 4 1 f = tEv T i f) (x4 x7 x8 : Int32) (hsk : ∀ k, k < tNt T s → gA S 5 9 (8 * s + k) < x7 → p.testBit k = tCd T s k (tEv T i) (tEv T i)) : ∃ S', wh (un3 (Chart_mark_l78 (nI (8 * s)) (nI (8 * s + tNt T s)) x4 x7 x8)) (S, nI (p <<< (8 * s)), nI (8 * s)) = some (S', nI (bN T s i <<< (8 * s))) ∧ agC [] [(6, 0)] [] S S' := by
  have n8 := hw.2.2.2.1 s (by omega)
  have hp8 : p < 256 := Nat.lt_of_lt_of_le hp (Nat.pow_le_pow_right (n := 2) (j := 8) (by decide) n8)
  have key := wh_ix (f := un3 (Chart_mark_l78 (nI (8 * s)) (nI (8 * s + tNt T s)) x4 x7 x8)) (s := (S, nI (p <<< (8 * s)), nI (8 * s))) (tNt T s) (fun k q => q.2.2 = nI (8 * s + k) ∧ (∃ w, q.2.1 = nI (w <<< (8 * s)) ∧ wI T s i k p w) ∧ agC [] [(6, 0)] [] S q.1) (fun r => r.2 = nI (bN T s i <<< (8 * s)) ∧ agC [] [(6, 0)] [] S r.1) ⟨rfl, ⟨p, rfl, hp8, fun j => by rw [if_neg (Nat.not_lt_zero j)]⟩, agC.rf S⟩ ?_ ?_
  · obtain ⟨⟨S', x⟩, h1, h2, h3⟩ := key
    dsimp only at h2 h3
    subst h2
    exact ⟨S', h1, h3⟩
  · intro k q hk1 hI
    obtain ⟨S1, x6, x9⟩ := q
    obtain ⟨e1, ⟨w, e2, hwI⟩, a1⟩ := hI
    dsimp only at e1 e2 a1
    subst e1 e2
    left
    have hwl := shl_lt hwI.1 hs
    by_cases c : gA S 5 9 (8 * s + k) < x7
    · refine ⟨(S1, nI (w <<< (8 * s)), nI (8 * s + (k + 1))), ?_, rfl, ⟨w, rfl, wI_skip hwI (hsk k hk1 c)⟩, a1⟩
      show Chart_mark_l78 (nI (8 * s)) (nI (8 * s + tNt T s)) x4 x7 x8 S1 (nI (w <<< (8 * s))) (nI (8 * s + k)) = _
      unfold Chart_mark_l78 Chart_mark_j159_l78
      rw [if_neg (by rw [mb_le (by omega) (by omega)]; omega), if_neg (by rw [mb_le (by omega) (by omega)]; omega), mb_in (by omega) (by decide), mb_gd, mb_cl (by omega), a1.2.1 5 9 (by decide), if_pos c, mb_nm, nI_1]
      rfl
    · obtain ⟨S2, h2, a2⟩ := (hk.2.2 S1 (a1.2.1 5 6 (by decide)) (a1.2.1 5 7 (by decide)) (a1.2.1 5 8 (by decide)) 6 4 1 4 1 (Or.inl ⟨rfl, rfl, rfl, rfl, rfl⟩)).1 s k (by omega) hk1
      have ec : tCd T s k (gA S1 4 1) (gA S1 4 1) = tCd T s k (tEv T i) (tEv T i) := hw.2.2.2.2.2.1 s k (by omega) hk1 _ _ _ _ (fun f hf => by rw [a1.2.1 4 1 (by decide)]; exact hv f hf) (fun e => by omega)
      rw [ec] at h2
      have hsh : (1 : Int32) <<< (nI (8 * s + k) &&& 31) = nI (2 ^ (8 * s + k)) := sh_one _ (by omega)
      have head : Chart_mark_l78 (nI (8 * s)) (nI (8 * s + tNt T s)) x4 x7 x8 S1 (nI (w <<< (8 * s))) (nI (8 * s + k)) = (if b2i (tCd T s k (tEv T i) (tEv T i)) = 0 then Chart_mark_j131_l78 S2 (nI (8 * s)) (nI (8 * s + tNt T s)) x4 (nI (w <<< (8 * s))) x7 x8 (nI (8 * s + k)) (0 : Int32) else Chart_mark_j131_l78 S2 (nI (8 * s)) (nI (8 * s + tNt T s)) x4 (nI (w <<< (8 * s))) x7 x8 (nI (8 * s + k)) (1 : Int32)) := by
        unfold Chart_mark_l78
        rw [if_neg (by rw [mb_le (by omega) (by omega)]; omega), if_neg (by rw [mb_le (by omega) (by omega)]; omega), mb_in (by omega) (by decide), mb_gd, mb_cl (by omega), a1.2.1 5 9 (by decide), if_neg c, h2, mb_bd2]
      cases hc : tCd T s k (tEv T i) (tEv T i) with
      | true =>
        refine ⟨(S2, nI ((w ||| 2 ^ k) <<< (8 * s)), nI (8 * s + (k + 1))), ?_, rfl, ⟨_, rfl, wI_set hwI (by omega) hc⟩, a1.tr a2⟩
        show Chart_mark_l78 (nI (8 * s)) (nI (8 * s + tNt T s)) x4 x7 x8 S1 (nI (w <<< (8 * s))) (nI (8 * s + k)) = _
        rw [head, hc, if_neg (by decide)]
        unfold Chart_mark_j131_l78 Chart_mark_j157_l78 Chart_mark_j159_l78
        rw [if_neg (by decide), mb_nm, hsh, nI_or, shl_or, nI_1]
        rfl
      | false =>
        refine ⟨(S2, nI ((df w (2 ^ k)) <<< (8 * s)), nI (8 * s + (k + 1))), ?_, rfl, ⟨_, rfl, wI_clr hwI hc⟩, a1.tr a2⟩
        show Chart_mark_l78 (nI (8 * s)) (nI (8 * s + tNt T s)) x4 x7 x8 S1 (nI (w <<< (8 * s))) (nI (8 * s + k)) = _
        rw [head, hc, if_pos (by decide)]
        unfold Chart_mark_j131_l78 Chart_mark_j157_l78 Chart_mark_j159_l78
        rw [if_pos (by decide), mb_nm, hsh, df_J (by omega), shl_df, nI_1]
        rfl
  · intro q hI
    obtain ⟨S1, x6, x9⟩ := q
    obtain ⟨e1, ⟨w, e2, hwI⟩, a1⟩ := hI
    dsimp only at e1 e2 a1
    subst e1 e2
    refine ⟨(S1, nI (bN T s i <<< (8 * s))), ?_, rfl, a1⟩
    show Chart_mark_l78 (nI (8 * s)) (nI (8 * s + tNt T s)) x4 x7 x8 S1 (nI (w <<< (8 * s))) (nI (8 * s + tNt T s)) = _
    unfold Chart_mark_l78
    rw [if_pos (by rw [mb_le (by omega) (by omega)]; omega), wI_end hwI hp]
theorem r_lt {r c : Nat} (hr : r ≤ 6) (hc : c < 2147483648) (h : nI r - 1 < nI c) : r ≤ c := by
  rcases Nat.eq_zero_or_pos r with z | z
  · omega
  · obtain ⟨q, rfl⟩ : ∃ q, r = q + 1 := ⟨r - 1, by omega⟩
    rw [← nI_1, Int32.add_sub_cancel, mb_lt (by omega) (by omega)] at h
    omega
theorem r_m1 : ∀ r, r ≤ 6 → ¬ nI r - 1 < -1 := by decide
theorem bN_0 {T : Tx} {s i : Nat} (h : tNt T s = 0) : bN T s i = 0 := by unfold bN; rw [h]; rfl
theorem bN_ltp (T : Tx) (s i : Nat) : bN T s i < 2 ^ tNt T s := bK_lt T s i (tNt T s)
theorem l3 : (3 : Int32) = nI 3 := rfl
theorem l2 : (2 : Int32) = nI 2 := rfl
theorem l4 : (4 : Int32) = nI 4 := rfl
def mkA : List (Nat × Nat) := [(4, 1), (4, 5), (6, 0)]
theorem c_mark {T : Tx} {S : St} (hw : wfT T) (hk : CK T S) {s : Nat} (hs : s < 3) (hN : tIn T ≤ gN S 4 5) (hN2 : gN S 4 5 ≤ 32768) (a : Nat → Nat) (hm : ∀ i, i < tIn T → gA S 4 5 i = nI (a i)) : ∃ S', f_Chart_mark S (nI s) = some S' ∧ agC [] mkA [] S S' ∧ ∀ i, i < tIn T → gA S' 4 5 i = nI (a i ||| bN T s i <<< (8 * s)) := by
  have n8 := hw.2.2.2.1 s (by omega)
  have n1 := hw.2.2.1
  unfold f_Chart_mark
  rw [mb_nm, c_toldOf hk.1 (by omega), mb_bd, mb_nm, l8, pk_mul, nI_add, Nat.mul_comm s 8]
  rcases Nat.eq_zero_or_pos (tNt T s) with z | z
  · rw [z, Nat.add_zero, if_pos rfl]
    refine ⟨S, rfl, agC.rf S, fun i hi => ?_⟩
    rw [bN_0 z, Nat.zero_shiftLeft, Nat.or_zero]
    exact hm i hi
  · rw [if_neg (by rw [mb_eq (by omega) (by omega)]; omega), mb_nm, hk.1.2.1]
    have emin : (if nI (gN S 4 5) < nI (tIn T) then nI (gN S 4 5) else nI (tIn T)) = nI (tIn T) := by
      rw [if_neg (by rw [mb_lt (by omega) (by omega)]; omega)]
    rw [emin]
    obtain ⟨S0, h0, a0, v0⟩ := c_spellFirst hw hk.1
    rw [h0, mb_bd]
    have key := wh_ix (f := un4 (Chart_mark_l68 (nI (8 * s)) (nI (8 * s + tNt T s)) (nI (tIn T)))) (s := (S0, (0 : Int32), (-1 : Int32), (0 : Int32))) (tIn T) (fun i q => q.2.2.2 = nI i ∧ agC [] mkA [] S q.1 ∧ (∀ j, j < i → gA q.1 4 5 j = nI (a j ||| bN T s j <<< (8 * s))) ∧ (∀ j, i ≤ j → j < tIn T → gA q.1 4 5 j = nI (a j)) ∧ (i < tIn T → (∀ f, f < tNf T → gA q.1 4 1 f = tEv T i f) ∧ ∃ p, p < 2 ^ tNt T s ∧ q.2.1 = nI (p <<< (8 * s)) ∧ ∀ k, k < tNt T s → gA S 5 9 (8 * s + k) < q.2.2.1 → p.testBit k = tCd T s k (tEv T i) (tEv T i))) (fun S' => agC [] mkA [] S S' ∧ ∀ i, i < tIn T → gA S' 4 5 i = nI (a i ||| bN T s i <<< (8 * s))) ⟨rfl, a0.wk (by decide) (by decide) (by decide), fun j hj => absurd hj (Nat.not_lt_zero j), fun j _ hj => ?_, fun _ => ⟨v0, 0, Nat.two_pow_pos _, ?_, fun k hk1 hlt => ?_⟩⟩ ?_ ?_
    · obtain ⟨S', h1, h2⟩ := key
      rw [h1, mb_bd]
      exact ⟨S', rfl, h2⟩
    · rw [a0.2.1 4 5 (by decide)]; exact hm j hj
    · rw [Nat.zero_shiftLeft]; rfl
    · obtain ⟨r, hr, er, _⟩ := hk.2.1.1 s k hs hk1
      rw [er] at hlt
      exact absurd hlt (r_m1 r hr)
    · intro i q hi hI
      obtain ⟨S1, x6, x7, x8⟩ := q
      obtain ⟨e1, a1, v1, v2, hv⟩ := hI
      dsimp only at e1 a1 v1 v2 hv
      subst e1
      obtain ⟨hvv, p, hp, ep, hsk⟩ := hv hi
      subst ep
      have hk1 : CK T S1 := hk.ag a1 (by decide) (by decide)
      obtain ⟨S2, h2, a2⟩ := c_mark1 hw hk1 hs hp hvv (nI (tIn T)) x7 (nI i) (fun k hk2 hlt => hsk k hk2 (by rw [a1.2.1 5 9 (by decide)] at hlt; exact hlt))
      have a12 : agC [] mkA [] S S2 := a1.tr (a2.wk (by decide) (by decide) (by decide))
      have hold : gA S2 4 5 i = nI (a i) := by rw [a2.2.1 4 5 (by decide)]; exact v2 i (Nat.le_refl i) hi
      obtain ⟨S3, e3⟩ : ∃ S3, S3 = pA S2 4 5 i (nI (a i ||| bN T s i <<< (8 * s))) := ⟨_, rfl⟩
      have a3 : agC [] [(4, 5)] [] S2 S3 := by rw [e3]; exact agC.pA S2 4 5 i _ (by decide)
      have a13 : agC [] mkA [] S S3 := a12.tr (a3.wk (by decide) (by decide) (by decide))
      have hk3 : CK T S3 := hk.ag a13 (by decide) (by decide)
      obtain ⟨⟨c, S4⟩, h4, a4, hadv⟩ := c_advance hw hk3.1 hi (fun f hf => by rw [a3.2.1 4 1 (by decide), a2.2.1 4 1 (by decide)]; exact hvv f hf)
      dsimp only at a4 hadv
      left
      refine ⟨(S4, nI (bN T s i <<< (8 * s)), c, nI (i + 1)), ?_, rfl, a13.tr (a4.wk (by decide) (by decide) (by decide)), ?_, ?_, ?_⟩
      · show Chart_mark_l68 (nI (8 * s)) (nI (8 * s + tNt T s)) (nI (tIn T)) S1 (nI (p <<< (8 * s))) x7 (nI i) = _
        unfold Chart_mark_l68 Chart_mark_j165_l68
        rw [if_neg (by rw [mb_le (by omega) (by omega)]; omega), h2, mb_bd2, a12.2.2.2, mb_in (by omega) (by omega), mb_gd, mb_gd, mb_nm, mb_cl (by omega), hold, nI_or, ← e3, h4, mb_bd2, mb_nm, nI_1]
      · intro j hj
        show gA S4 4 5 j = _
        rw [a4.2.1 4 5 (by decide), e3, mb_AA]
        by_cases e : j = i
        · rw [if_pos ⟨rfl, rfl, e⟩, e]
        · rw [if_neg (fun z => e z.2.2), a2.2.1 4 5 (by decide)]; exact v1 j (by omega)
      · intro j hj hj2
        show gA S4 4 5 j = _
        rw [a4.2.1 4 5 (by decide), e3, mb_AA, if_neg (fun z => by omega), a2.2.1 4 5 (by decide)]
        exact v2 j (by omega) hj2
      · intro hlt
        obtain ⟨d, hd, ed, w1, w2⟩ := hadv hlt
        have n6 := hw.1
        refine ⟨w1, bN T s i, bN_ltp T s i, rfl, fun k hk2 hl => ?_⟩
        have hl : gA S 5 9 (8 * s + k) < c := hl
        obtain ⟨r, hr, er, hin⟩ := hk.2.1.1 s k hs hk2
        rw [er, ed] at hl
        have hrc := r_lt hr (by omega) hl
        rw [bN_tb, decide_eq_true hk2, Bool.true_and]
        exact hin _ _ _ _ (fun f hf => (w2 f (by omega)).symm)
    · intro q hI
      obtain ⟨S1, x6, x7, x8⟩ := q
      obtain ⟨e1, a1, v1, v2, hv⟩ := hI
      dsimp only at e1 a1 v1 v2 hv
      subst e1
      refine ⟨S1, ?_, a1, v1⟩
      show Chart_mark_l68 (nI (8 * s)) (nI (8 * s + tNt T s)) (nI (tIn T)) S1 x6 x7 (nI (tIn T)) = _
      unfold Chart_mark_l68
      rw [if_pos (by rw [mb_le (by omega) (by omega)]; omega)]
