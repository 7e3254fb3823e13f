/-! the class: going through the inputs -/
theorem sd_mul {T : Tx} (hw : wfT T) {g f : Nat} (h : g < f) (hf : f < tNf T) : ∃ X, 1 ≤ X ∧ tSd T g = X * (tMa T f * tSd T f) := by
  refine ⟨pr (tMa T) (g + 1) (f - (g + 1)), pr_pos _ _ (fun q _ b => (hw.2.1 q (by omega)).1), ?_⟩
  show pr (tMa T) (g + 1) (tNf T - (g + 1)) = _
  rw [show tNf T - (g + 1) = (f - (g + 1)) + (tNf T - f) by omega, pr_split, show g + 1 + (f - (g + 1)) = f by omega]
  congr 1
  rw [show tNf T - f = (tNf T - (f + 1)) + 1 by omega]
  rfl
theorem ad_1 {P i : Nat} (hP : 1 ≤ P) (h : i % P = P - 1) : i + 1 = P * (i / P + 1) := by
  have := Nat.div_add_mod i P
  rw [Nat.mul_add]
  omega
theorem ad_2 {i P m : Nat} (hP : 1 ≤ P) (hm : 1 ≤ m) (h : i % P = P - 1) (h2 : i / P % m = m - 1) : i % (P * m) = P * m - 1 := by
  rw [Nat.mod_mul, h, h2, Nat.mul_sub, Nat.mul_one]
  have : P ≤ P * m := Nat.le_mul_of_pos_right P hm
  omega
theorem ad_3 {q m : Nat} (h : q % m + 1 < m) : (q + 1) / m = q / m ∧ (q + 1) % m = q % m + 1 := by
  have h0 : 0 < m := by omega
  have e := Nat.div_add_mod q m
  have e1 : q + 1 = m * (q / m) + (q % m + 1) := by omega
  constructor
  · rw [e1, Nat.mul_add_div h0, Nat.div_eq_of_lt h, Nat.add_zero]
  · conv => lhs; rw [e1]
    rw [Nat.mul_add_mod, Nat.mod_eq_of_lt h]
theorem tEv_0 (T : Tx) (f : Nat) : tEv T 0 f = nI (tFr T f) := by
  show nI (tFr T f + 0 / tSd T f % tMa T f) = _
  rw [Nat.zero_div, Nat.zero_mod, Nat.add_zero]
theorem c_spellFirst {T : Tx} {S : St} (hw : wfT T) (h : CB T S) : ∃ S', f_Book_spellFirst S = some S' ∧ agC [] [(4, 1)] [] S S' ∧ ∀ f, f < tNf T → gA S' 4 1 f = tEv T 0 f := by
  have n6 := hw.1
  unfold f_Book_spellFirst
  have key := wh_ix (f := un2 Book_spellFirst_l2) (s := (S, (0 : Int32))) 8 (fun i q => q.2 = nI i ∧ agC [] [(4, 1)] [] S q.1 ∧ ∀ f, f < i → gA q.1 4 1 f = gA S 5 1 f) (fun S' => agC [] [(4, 1)] [] S S' ∧ ∀ f, f < 8 → gA S' 4 1 f = gA S 5 1 f) ⟨rfl, agC.rf S, fun f hf => absurd hf (Nat.not_lt_zero f)⟩ ?_ ?_
  · obtain ⟨S', h1, h2, h3⟩ := key
    rw [h1, mb_bd]
    refine ⟨S', rfl, h2, fun f hf => ?_⟩
    rw [h3 f (by omega), (h.2.2.1 f hf).1, tEv_0]
  · intro i q hi hI
    obtain ⟨S1, x⟩ := q
    obtain ⟨e1, a1, v1⟩ := hI
    dsimp only at e1 a1 v1
    subst e1
    left
    refine ⟨(pA S1 4 1 i (gA S1 5 1 i), nI (i + 1)), ?_, rfl, a1.tr (agC.pA S1 4 1 i _ (by decide)), ?_⟩
    · show Book_spellFirst_l2 S1 (nI i) = _
      unfold Book_spellFirst_l2
      rw [if_neg (by rw [mb_le (by omega) (by omega)]; omega), if_neg (by rw [mb_le (by omega) (by omega)]; omega), mb_in (by omega) (by decide), mb_gd, mb_gd, mb_nm, mb_nm, mb_cl (by omega), nI_1]
    · intro f hf
      show gA (pA S1 4 1 i _) 4 1 f = _
      rw [mb_AA]
      by_cases e : f = i
      · rw [if_pos ⟨rfl, rfl, e⟩, e, a1.2.1 5 1 (by decide)]
      · rw [if_neg (fun z => e z.2.2)]; exact v1 f (by omega)
  · intro q hI
    obtain ⟨S1, x⟩ := q
    obtain ⟨e1, a1, v1⟩ := hI
    dsimp only at e1 a1 v1
    subst e1
    refine ⟨S1, ?_, a1, v1⟩
    show Book_spellFirst_l2 S1 (nI 8) = _
    unfold Book_spellFirst_l2
    rw [if_pos (by rw [mb_le (by omega) (by omega)]; omega)]
/-- on to the input behind -/
def advP (T : Tx) (S : St) (i : Nat) (r : Int32 × St) : Prop := agC [] [(4, 1)] [] S r.2 ∧ (i + 1 < tIn T → ∃ c, c < tNf T ∧ r.1 = nI c ∧ (∀ f, f < tNf T → gA r.2 4 1 f = tEv T (i + 1) f) ∧ ∀ f, f < c → tEv T (i + 1) f = tEv T i f)
theorem c_advance {T : Tx} {S : St} (hw : wfT T) (h : CB T S) {i : Nat} (hi : i < tIn T) (hv : ∀ f, f < tNf T → gA S 4 1 f = tEv T i f) : ∃ r, f_Book_advance S = some r ∧ advP T S i r := by
  have n6 := hw.1
  unfold f_Book_advance
  rw [mb_nm, h.1]
  refine wh_ix (f := un2 Book_advance_l7) (tNf T) (fun j q => q.2 = nI (tNf T - j) - 1 ∧ agC [] [(4, 1)] [] S q.1 ∧ (∀ f, f < tNf T - j → gA q.1 4 1 f = tEv T i f) ∧ (∀ f, tNf T - j ≤ f → f < tNf T → gA q.1 4 1 f = nI (tFr T f)) ∧ i % pr (tMa T) (tNf T - j) j = pr (tMa T) (tNf T - j) j - 1) (advP T S i) ⟨rfl, agC.rf S, hv, fun f h1 h2 => by omega, by simp [pr, Nat.mod_one]⟩ ?_ ?_
  · intro j q hj hI
    obtain ⟨S1, x⟩ := q
    obtain ⟨e1, a1, v1, v2, hmod⟩ := hI
    dsimp only at e1 a1 v1 v2 hmod
    obtain ⟨f, hf⟩ : ∃ f, f = tNf T - j - 1 := ⟨_, rfl⟩
    have hfn : f < tNf T := by omega
    have ef : tNf T - j = f + 1 := by omega
    rw [ef] at e1 v1 v2 hmod
    rw [← nI_1, Int32.add_sub_cancel] at e1
    subst e1
    obtain ⟨b1, b2, b3⟩ := h.2.2.1 f hfn
    have p4 := hw.2.1 f hfn
    have hsd : pr (tMa T) (f + 1) j = tSd T f := by
      unfold tSd
      rw [show tNf T - (f + 1) = j by omega]
    rw [hsd] at hmod
    have hP := tSd_pos hw hfn
    have hdl : i / tSd T f % tMa T f < tMa T f := Nat.mod_lt _ (by omega)
    have hvf : gA S1 4 1 f = nI (tVa T i f) := v1 f (by omega)
    have hva : tVa T i f = tFr T f + i / tSd T f % tMa T f := rfl
    have head : Book_advance_l7 S1 (nI f) = (if nI (tFr T f + tMa T f - 1) ≤ nI (tVa T i f) then some (.inl (pA S1 4 1 f (nI (tFr T f)), nI f + (-1))) else some (.inr (nI f, pA S1 4 1 f (nI (tVa T i f) + 1)))) := by
      unfold Book_advance_l7
      rw [if_neg (nI_pos (by omega)), l6, if_neg (by rw [mb_le (by omega) (by omega)]; omega), if_neg (by rw [mb_le (by omega) (by omega)]; omega), mb_in (by omega) (by decide), mb_gd, mb_gd, mb_gd, mb_gd, mb_nm, mb_nm, mb_cl (by omega), a1.2.1 5 2 (by decide), a1.2.1 5 1 (by decide), b1, b2, hvf, mb_gd, mb_gd, mb_nm]
    show (∃ t, Book_advance_l7 S1 (nI f) = some (.inl t) ∧ _) ∨ (∃ r, Book_advance_l7 S1 (nI f) = some (.inr r) ∧ _)
    rw [head]
    by_cases c : nI (tFr T f + tMa T f - 1) ≤ nI (tVa T i f)
    · rw [if_pos c]
      rw [mb_le (by omega) (by omega), hva] at c
      have hd : i / tSd T f % tMa T f = tMa T f - 1 := by omega
      left
      refine ⟨_, rfl, ?_, a1.tr (agC.pA S1 4 1 f _ (by decide)), ?_, ?_, ?_⟩
      · show nI f + (-1) = nI (tNf T - (j + 1)) - 1
        rw [sub1, show tNf T - (j + 1) = f by omega]
      · intro g hg
        show gA (pA S1 4 1 f _) 4 1 g = _
        rw [mb_AA, if_neg (fun z => by omega)]
        exact v1 g (by omega)
      · intro g hg hg2
        show gA (pA S1 4 1 f _) 4 1 g = _
        rw [mb_AA]
        by_cases e : g = f
        · rw [if_pos ⟨rfl, rfl, e⟩, e]
        · rw [if_neg (fun z => e z.2.2)]; exact v2 g (by omega) hg2
      · show i % pr (tMa T) (tNf T - (j + 1)) (j + 1) = _
        rw [show tNf T - (j + 1) = f by omega]
        have : pr (tMa T) f (j + 1) = tSd T f * tMa T f := by
          show tMa T f * pr (tMa T) (f + 1) j = _
          rw [hsd, Nat.mul_comm]
        rw [this]
        exact ad_2 hP p4.1 hmod hd
    · rw [if_neg c]
      rw [mb_le (by omega) (by omega), hva] at c
      have hd : i / tSd T f % tMa T f + 1 < tMa T f := by omega
      right
      refine ⟨_, rfl, a1.tr (agC.pA S1 4 1 f _ (by decide)), fun _ => ⟨f, hfn, rfl, ?_, ?_⟩⟩
      · have e1 := ad_1 hP hmod
        have e3 := ad_3 hd
        intro g hg
        show gA (pA S1 4 1 f _) 4 1 g = _
        rw [mb_AA]
        by_cases e : g = f
        · rw [if_pos ⟨rfl, rfl, e⟩, e, nI_1]
          show _ = nI (tFr T f + (i + 1) / tSd T f % tMa T f)
          rw [e1, Nat.mul_div_cancel_left _ (by omega), e3.2, hva]
          rfl
        · rw [if_neg (fun z => e z.2.2)]
          rcases Nat.lt_or_ge g f with z | z
          · rw [v1 g (by omega)]
            obtain ⟨X, hX, eX⟩ := sd_mul hw z hfn
            show nI (tFr T g + i / tSd T g % tMa T g) = nI (tFr T g + (i + 1) / tSd T g % tMa T g)
            rw [eX, Nat.mul_comm X, Nat.mul_comm (tMa T f), ← Nat.div_div_eq_div_mul, ← Nat.div_div_eq_div_mul, ← Nat.div_div_eq_div_mul, ← Nat.div_div_eq_div_mul]
            rw [show (i + 1) / tSd T f = i / tSd T f + 1 by rw [e1, Nat.mul_div_cancel_left _ (by omega)], e3.1]
          · rw [v2 g (by omega) hg]
            obtain ⟨X, hX, eX⟩ := sd_mul hw (show f < g by omega) hg
            have hg1 := tSd_pos hw hg
            show _ = nI (tFr T g + (i + 1) / tSd T g % tMa T g)
            rw [e1, eX, show X * (tMa T g * tSd T g) * (i / (X * (tMa T g * tSd T g)) + 1) = tSd T g * (tMa T g * (X * (i / (X * (tMa T g * tSd T g)) + 1))) by
              generalize i / (X * (tMa T g * tSd T g)) + 1 = z
              rw [Nat.mul_comm (tMa T g) (tSd T g), ← Nat.mul_assoc X, Nat.mul_comm X (tSd T g), Nat.mul_assoc, Nat.mul_assoc, ← Nat.mul_assoc X, Nat.mul_comm X (tMa T g), Nat.mul_assoc], Nat.mul_div_cancel_left _ (by omega), Nat.mul_mod_right, Nat.add_zero]
      · have e1 := ad_1 hP hmod
        have e3 := ad_3 hd
        intro g z
        obtain ⟨X, hX, eX⟩ := sd_mul hw z hfn
        show nI (tFr T g + (i + 1) / tSd T g % tMa T g) = nI (tFr T g + i / tSd T g % tMa T g)
        rw [eX, Nat.mul_comm X, Nat.mul_comm (tMa T f), ← Nat.div_div_eq_div_mul, ← Nat.div_div_eq_div_mul, ← Nat.div_div_eq_div_mul, ← Nat.div_div_eq_div_mul]
        rw [show (i + 1) / tSd T f = i / tSd T f + 1 by rw [e1, Nat.mul_div_cancel_left _ (by omega)], e3.1]
  · intro q hI
    obtain ⟨S1, x⟩ := q
    obtain ⟨e1, a1, v1, v2, hmod⟩ := hI
    dsimp only at e1 a1 v1 v2 hmod
    rw [Nat.sub_self] at e1 hmod
    subst e1
    refine ⟨(-1, S1), ?_, a1, fun hlt => ?_⟩
    · show Book_advance_l7 S1 (nI 0 - 1) = _
      unfold Book_advance_l7 Book_advance_j59_l7
      rw [show nI 0 - 1 = -1 from rfl, if_pos (by decide)]
    · exfalso
      have : i % tIn T = tIn T - 1 := hmod
      rw [Nat.mod_eq_of_lt hi] at this
      omega
/-! bits -/
theorem bK_tb (T : Tx) (s i : Nat) : ∀ k j, (bK T s i k).testBit j = (decide (j < k) && tCd T s j (tEv T i) (tEv T i))
  | 0, j => by
    show (0 : Nat).testBit j = _
    simp
  | k + 1, j => by
    have h := bK_lt T s i k
    have ih := bK_tb T s i k j
    have hstep : bK T s i (k + 1) = bK T s i k ||| cond (tCd T s k (tEv T i) (tEv T i)) (2 ^ k) 0 := by
      show bK T s i k + cond (tCd T s k (tEv T i) (tEv T i)) (2 ^ k) 0 = _
      cases tCd T s k (tEv T i) (tEv T i)
      · show _ + 0 = _ ||| 0
        rw [Nat.or_zero, Nat.add_zero]
      · exact (or_pow h).symm
    rw [hstep, Nat.testBit_or, ih]
    by_cases e : j = k
    · subst e
      rw [decide_eq_false (Nat.lt_irrefl j), decide_eq_true (Nat.lt_succ_self j)]
      cases tCd T s j (tEv T i) (tEv T i)
      · show (false && _ || (0 : Nat).testBit j) = _
        simp
      · show (false && _ || (2 ^ j).testBit j) = _
        rw [Nat.testBit_two_pow_self]
        rfl
    · have : (cond (tCd T s k (tEv T i) (tEv T i)) (2 ^ k) 0).testBit j = false := by
        cases tCd T s k (tEv T i) (tEv T i)
        · show (0 : Nat).testBit j = _
          simp
        · show (2 ^ k).testBit j = _
          rw [Nat.testBit_two_pow]
          exact decide_eq_false (fun z => e z.symm)
      rw [this, Bool.or_false]
      congr 1
      by_cases c : j < k
      · rw [decide_eq_true c, decide_eq_true (show j < k + 1 by omega)]
      · rw [decide_eq_false c, decide_eq_false (show ¬ j < k + 1 by omega)]
theorem bN_tb (T : Tx) (s i j : Nat) : (bN T s i).testBit j = (decide (j < tNt T s) && tCd T s j (tEv T i) (tEv T i)) := bK_tb T s i (tNt T s) j
theorem sh_one : ∀ k, k < 31 → (1 : Int32) <<< (nI k &&& 31) = nI (2 ^ k) := by decide
theorem df_J {m o : Nat} (hm : m < 2 ^ 32) : nI m &&& (nI o ^^^ (-1)) = nI (df m o) := by
  have e1 : (-1 : Int32) = nI 4294967295 := by decide
  rw [e1, nI_xor, nI_and]
  congr 1
  apply tb_ext
  intro j
  rw [df_tb, Nat.testBit_and, Nat.testBit_xor, show (4294967295 : Nat) = 2 ^ 32 - 1 from rfl, Nat.testBit_two_pow_sub_one]
  by_cases c : j < 32
  · rw [decide_eq_true c]
    simp
  · have : m.testBit j = false := Nat.testBit_lt_two_pow (Nat.lt_of_lt_of_le hm (Nat.pow_le_pow_right (by decide) (by omega)))
    rw [this]
    rfl
theorem shl_or (w s k : Nat) : w <<< s ||| 2 ^ (s + k) = (w ||| 2 ^ k) <<< s := by
  rw [Nat.shiftLeft_or_distrib, Nat.shiftLeft_eq (2 ^ k), ← Nat.pow_add, Nat.add_comm k s]
theorem shl_df (w s k : Nat) : df (w <<< s) (2 ^ (s + k)) = (df w (2 ^ k)) <<< s := by
  apply tb_ext
  intro j
  rw [df_tb, Nat.testBit_shiftLeft, Nat.testBit_shiftLeft, df_tb, Nat.testBit_two_pow, Nat.testBit_two_pow]
  by_cases c : s ≤ j
  · have e : decide (s + k = j) = decide (k = j - s) := by
      by_cases e : s + k = j
      · rw [decide_eq_true e, decide_eq_true (by omega)]
      · rw [decide_eq_false e, decide_eq_false (by omega)]
    rw [decide_eq_true (show j ≥ s from c), e]
    simp
  · rw [decide_eq_false (show ¬ j ≥ s from c)]
    rfl
theorem tb_lt8 {w : Nat} (h : ∀ j, 8 ≤ j → w.testBit j = false) : w < 256 := by
  have : w < 2 ^ 8 := Nat.lt_pow_two_of_testBit w h
  exact this
