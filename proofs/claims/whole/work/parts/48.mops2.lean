/-! the reference: drawing, the log, the tape (the wb_ rows are pasted out of the given BITS family) -/
theorem wb_tb (n : Nat) : (lN n).toBitVec = BitVec.ofNat 64 n := rfl
theorem wb_inj {a b : Int64} (h : a.toBitVec = b.toBitVec) : a = b := Int64.toBitVec_inj.mp h
theorem wb_tn {n : Nat} (h : n < 2 ^ 64) : (lN n).toBitVec.toNat = n := by rw [wb_tb, BitVec.toNat_ofNat, Nat.mod_eq_of_lt h]
theorem wb_of (x : Int64) : ∃ n, n < 2 ^ 64 ∧ x = lN n := ⟨x.toBitVec.toNat, x.toBitVec.isLt, wb_inj (by rw [wb_tb]; simp)⟩
theorem wb_of32 (x : Int32) : ∃ n, n < 2 ^ 32 ∧ x = nI n := ⟨x.toBitVec.toNat, x.toBitVec.isLt, Int32.toBitVec_inj.mp (by show _ = BitVec.ofNat 32 _; simp)⟩
theorem wb_c : ∀ k, k < 64 → ((nI k).toInt64 &&& 63) = lN k := by decide +kernel
theorem wb_cu : ∀ k, k < 64 → ((nI k).toInt64.toUInt64 &&& Int64.toUInt64 63) = UInt64.ofNat k := by decide +kernel
theorem wb_sm : ∀ k, k < 64 → (BitVec.ofNat 64 k).smod 64 = BitVec.ofNat 64 k := by decide +kernel
theorem wb_pw {a b : Nat} (h : a ≤ b) : 2 ^ b = 2 ^ a * 2 ^ (b - a) := by rw [← Nat.pow_add]; congr 1; omega
theorem wb_lt2 {a b : Nat} (h : a < b) : 2 ^ a < 2 ^ b := Nat.pow_lt_pow_right (by decide) h
theorem wb_mod (n : Nat) : lN n = lN (n % 2 ^ 64) := wb_inj (by rw [wb_tb, wb_tb]; apply BitVec.eq_of_toNat_eq; rw [BitVec.toNat_ofNat, BitVec.toNat_ofNat, Nat.mod_mod])
theorem wb_shr {n k : Nat} (hn : n < 2 ^ 64) (hk : k < 64) : ((lN n).toUInt64 >>> ((nI k).toInt64.toUInt64 &&& Int64.toUInt64 63)).toInt64 = lN (n / 2 ^ k) := by
  rw [wb_cu k hk]
  apply wb_inj
  apply BitVec.eq_of_toNat_eq
  show ((lN n).toUInt64 >>> UInt64.ofNat k).toNat = (BitVec.ofNat 64 _).toNat
  have h1 : (UInt64.ofNat k).toNat = k := by
    show (BitVec.ofNat 64 k).toNat = k
    rw [BitVec.toNat_ofNat, Nat.mod_eq_of_lt (by omega)]
  have h2 : (lN n).toUInt64.toNat = n := wb_tn hn
  rw [UInt64.toNat_shiftRight, h1, h2, Nat.mod_eq_of_lt hk, Nat.shiftRight_eq_div_pow, BitVec.toNat_ofNat, Nat.mod_eq_of_lt (Nat.lt_of_le_of_lt (Nat.div_le_self _ _) hn)]
/-- the first place at which the sum of shares passes x -/
def pkTo (T : Tx) (l : List Nat) (x : Int32) : Nat → Option Nat
  | 0 => none
  | k + 1 => match pkTo T l x k with
    | some a => some a
    | none => if nI (shSum T (l.take (k + 1))) ≤ x then none else some k
def spPk (T : Tx) (on : Nat) (x : Int32) : Int32 := match pkTo T (lwS T on) x (lwS T on).length with
  | none => -1
  | some k => nI k
theorem shSum_take (T : Tx) (l : List Nat) {k x : Nat} (h : l[k]? = some x) : shSum T (l.take (k + 1)) = shSum T (l.take k) + shN T x := by
  rw [List.take_succ, h]
  exact shSum_app T (l.take k) x
theorem shSum_tk (T : Tx) (l : List Nat) (k : Nat) : shSum T (l.take k) ≤ shSum T l := by
  have e : l = l.take k ++ l.drop k := (List.take_append_drop k l).symm
  have e2 : shSum T l = shSum T (l.take k) + shSum T (l.drop k) := by
    conv => lhs; rw [e]
    unfold shSum
    rw [List.map_append, List.sum_append]
  omega
theorem m_picked {T : Tx} {on : Nat} {M : St} (hw : wfT T) (hs : SE T on M) (x : Int32) : f_Model_picked M x = some (spPk T on x) := by
  have hlen := lwS_len hw on
  have hsum := shSum_le T (lwS T on)
  unfold f_Model_picked
  have key := wh_ix (f := un2 (Model_picked_l4 M x)) (s := ((0 : Int32), (0 : Int32))) (lwS T on).length (fun k q => q.2 = nI k ∧ q.1 = nI (shSum T ((lwS T on).take k)) ∧ pkTo T (lwS T on) x k = none) (fun r => r = spPk T on x) ⟨rfl, by rw [List.take_zero]; rfl, rfl⟩ ?_ ?_
  · obtain ⟨r, h1, h2⟩ := key
    rw [h1, h2]
  · intro k q hk hI
    obtain ⟨x2, x3⟩ := q
    obtain ⟨e1, e2, hn⟩ := hI
    dsimp only at e1 e2 hn
    subst e1 e2
    have hg := get_some hk
    have ep : pkTo T (lwS T on) x (k + 1) = (if nI (shSum T ((lwS T on).take (k + 1))) ≤ x then none else some k) := by
      show (match pkTo T (lwS T on) x k with | some a => some a | none => _) = _
      rw [hn]
    have body : Model_picked_l4 M x (nI (shSum T ((lwS T on).take k))) (nI k) = (if nI (shSum T ((lwS T on).take (k + 1))) ≤ x then (some (.inl (nI (shSum T ((lwS T on).take (k + 1))), nI (k + 1)))) else (some (.inr (nI k)))) := by
      unfold Model_picked_l4
      rw [hs.2.1, if_neg (by rw [mb_le (by omega) (by omega)]; omega), mb_in (by omega) (by decide), mb_gd, mb_cl (by omega), (hs.2.2.2 k _ hg).2, nI_add, ← shSum_take T _ hg, mb_nm, mb_nm, nI_1]
    by_cases c : nI (shSum T ((lwS T on).take (k + 1))) ≤ x
    · left
      refine ⟨(nI (shSum T ((lwS T on).take (k + 1))), nI (k + 1)), ?_, rfl, rfl, by rw [ep, if_pos c]⟩
      show Model_picked_l4 M x (nI (shSum T ((lwS T on).take k))) (nI k) = _
      rw [body, if_pos c]
    · right
      have ef : ∀ n, k + 1 ≤ n → pkTo T (lwS T on) x n = some k := by
        intro n hn
        induction hn with
        | refl => rw [ep, if_neg c]
        | step _ ih => show (match pkTo T (lwS T on) x _ with | some a => some a | none => _) = some k; rw [ih]
      refine ⟨nI k, ?_, ?_⟩
      · show Model_picked_l4 M x (nI (shSum T ((lwS T on).take k))) (nI k) = _
        rw [body, if_neg c]
      · unfold spPk
        rw [ef _ (by omega)]
  · intro q hI
    obtain ⟨x2, x3⟩ := q
    obtain ⟨e1, e2, hn⟩ := hI
    dsimp only at e1 e2 hn
    subst e1 e2
    refine ⟨-1, ?_, ?_⟩
    · show Model_picked_l4 M x _ (nI (lwS T on).length) = _
      unfold Model_picked_l4
      rw [hs.2.1, if_pos (by rw [mb_le (by omega) (by omega)]; omega)]
    · unfold spPk
      rw [hn]
/-- some place is found below the sum -/
theorem pk_found {T : Tx} {on j : Nat} (hw : wfT T) (hj : j < shSum T (lwS T on)) : ∃ k, k < (lwS T on).length ∧ pkTo T (lwS T on) (nI j) (lwS T on).length = some k := by
  have hlen := lwS_len hw on
  have hsum := shSum_le T (lwS T on)
  have key : ∀ n, n ≤ (lwS T on).length → (∃ k, k < n ∧ pkTo T (lwS T on) (nI j) n = some k) ∨ (pkTo T (lwS T on) (nI j) n = none ∧ shSum T ((lwS T on).take n) ≤ j) := by
    intro n
    induction n with
    | zero => intro _; exact Or.inr ⟨rfl, by rw [List.take_zero]; exact Nat.zero_le _⟩
    | succ n ih =>
      intro hn
      have ht := shSum_tk T (lwS T on) (n + 1)
      rcases ih (by omega) with ⟨k, h1, h2⟩ | ⟨h1, h2⟩
      · left
        refine ⟨k, by omega, ?_⟩
        show (match pkTo T (lwS T on) (nI j) n with | some a => some a | none => _) = some k
        rw [h2]
      · have ep : pkTo T (lwS T on) (nI j) (n + 1) = (if nI (shSum T ((lwS T on).take (n + 1))) ≤ nI j then none else some n) := by
          show (match pkTo T (lwS T on) (nI j) n with | some a => some a | none => _) = _
          rw [h1]
        rw [ep]
        by_cases c : nI (shSum T ((lwS T on).take (n + 1))) ≤ nI j
        · right
          rw [if_pos c]
          rw [mb_le (by omega) (by omega)] at c
          exact ⟨rfl, c⟩
        · left
          rw [if_neg c]
          exact ⟨n, by omega, rfl⟩
  rcases key _ (Nat.le_refl _) with h | ⟨h1, h2⟩
  · exact h
  · rw [List.take_length] at h2
    omega
def spPick (T : Tx) (on : Nat) (x : Int32) : Int32 := match ixN x (shSum T (lwS T on)) with
  | none => -1
  | some _ => spPk T on x
/-- the number that a seed and a count give -/
def xdW (seed : Int64) (i : Int32) : Int64 := (((seed * (31 : Int64)) + (i.toInt64)) + (1 : Int64)) * (2862933555777941757 : Int64)
def xdV (w : Int64) : Int64 := w ^^^ (w.toUInt64 >>> ((29 : Int32).toInt64.toUInt64 &&& Int64.toUInt64 63)).toInt64
def xdU (v : Int64) : Int64 := (v.toUInt64 >>> ((1 : Int32).toInt64.toUInt64 &&& Int64.toUInt64 63)).toInt64
def xd (s : Nat) (seed : Int64) (i : Int32) : Int32 := (xdU (xdV (xdW seed i)) - xdU (xdV (xdW seed i)) / (nI s).toInt64 * (nI s).toInt64).toInt32
theorem xd_lt {s : Nat} (h0 : 0 < s) (h1 : s < 2147483648) (seed : Int64) (i : Int32) : ∃ j, j < s ∧ xd s seed i = nI j := by
  obtain ⟨n, hn, e⟩ := wb_of (xdV (xdW seed i))
  unfold xd
  rw [e]
  have e1 : xdU (lN n) = lN (n / 2 ^ 1) := wb_shr (k := 1) hn (by decide)
  have e2 : (nI s).toInt64 = lN s := nI_l h1
  have hm : n / 2 ^ 1 < 2 ^ 63 := by omega
  rw [e1, e2, pk_lRem hm h0 (by omega), lN_i]
  exact ⟨n / 2 ^ 1 % s, Nat.mod_lt _ h0, rfl⟩
section MO2
variable {T : Tx} {on tn : Nat} {lg : List Nat} {tb : Nat → Int32} {pl : Int32} {M : St}
theorem mo_pick (h : mInv T on lg tn tb pl M) (x : Int32) : f_Model_pick M x = some (spPick T on x) := by
  obtain ⟨hw, -, -, -, -, hs, -⟩ := h
  have hlen := lwS_len hw on
  have hsum := shSum_le T (lwS T on)
  unfold f_Model_pick Model_pick_j12 Model_pick_j21 spPick
  rw [hs.2.2.1, m_picked hw hs, mb_bd]
  cases h1 : ixN x (shSum T (lwS T on)) with
  | none =>
    rcases ixN_n h1 with q | ⟨q, r⟩
    · rw [if_pos q]
    · rw [if_neg q, if_neg]
      intro z
      exact Int32.lt_irrefl (Int32.lt_of_lt_of_le z r)
  | some k =>
    obtain ⟨k1, rfl, q, r⟩ := ixN_s (by omega) h1
    rw [if_neg q, if_pos (by rw [mb_lt (by omega) (by omega)]; exact k1)]
/-- FALLEN ones of the log -/
def flTo (T : Tx) (on : Nat) (lg : List Nat) : Nat → List Nat
  | 0 => []
  | k + 1 => cond (isL T on (keS T on) (lg.getD k 0)) (flTo T on lg k) (flTo T on lg k ++ [k])
def spFallen (T : Tx) (on : Nat) (lg : List Nat) (x : Int32) : Int32 := match ixN x (flTo T on lg lg.length).length with
  | none => -1
  | some k => nI ((flTo T on lg lg.length).getD k 0)
def spBack (tn : Nat) (x : Int32) : Int32 × Nat := match ixN x (tn + 1) with
  | none => (-1, tn)
  | some k => (nI (tn - k), tn - k)
theorem mInv.ag {M' : St} {LI LA : List Nat} (h : mInv T on lg tn tb pl M) (a : agY LI LA M M') (h1 : ∀ k ∈ [17, 18, 44, 52, 53, 54, 57, 58], k ∉ LI) (h2 : ∀ k ∈ [20, 22, 23, 25, 26, 27, 28, 29, 30, 32, 33, 34, 35, 36, 37, 39, 40, 45, 46, 47, 48, 55, 56, 59], k ∉ LA) {tn' : Nat} {tb' : Nat → Int32} (ht : TP tn' tb' M') : mInv T on lg tn' tb' pl M' := by
  obtain ⟨hw, ⟨lv, hM, hh, he⟩, ho, hb, hd, hs, -, hp, hl, hk⟩ := h
  have aT : agT lv M M' := a.toT (h1 18 (by decide)) (by
    intro q hq
    refine h2 q.1 ?_
    revert q
    decide) lv
  refine ⟨hw, ⟨lv, hM.ag hw aT, hh.ag aT, he.ag aT⟩, ho.ag a (h1 52 (by decide)), hb.ag a (h1 44 (by decide)) ⟨h2 46 (by decide), h2 47 (by decide), h2 48 (by decide)⟩, hd.ag a (h2 45 (by decide)), ⟨?_, ?_, ?_, ?_⟩, ht, ?_, ⟨hl.1, ?_, ?_⟩, ?_⟩
  · rw [a.1 53 (h1 53 (by decide))]; exact hs.1
  · rw [a.1 54 (h1 54 (by decide))]; exact hs.2.1
  · rw [a.1 57 (h1 57 (by decide))]; exact hs.2.2.1
  · rw [a.2.1 55 (h2 55 (by decide)), a.2.1 56 (h2 56 (by decide))]; exact hs.2.2.2
  · rw [a.1 17 (h1 17 (by decide))]; exact hp
  · rw [a.1 58 (h1 58 (by decide))]; exact hl.2.1
  · rw [a.2.1 59 (h2 59 (by decide))]; exact hl.2.2
  · unfold KY
    rw [a.2.2.1, a.1 52 (h1 52 (by decide))]
    exact hk
theorem mo_back (h : mInv T on lg tn tb pl M) (x : Int32) : ∃ M', f_Model_back M x = some ((spBack tn x).1, M') ∧ mInv T on lg (spBack tn x).2 tb pl M' := by
  have ht := h.2.2.2.2.2.2.1
  have htn := ht.1
  unfold f_Model_back Model_back_j12 spBack
  rw [ht.2.1]
  cases h1 : ixN x (tn + 1) with
  | none =>
    refine ⟨M, ?_, h⟩
    rcases ixN_n h1 with q | ⟨q, r⟩
    · rw [if_pos q]
    · rw [if_neg q, if_neg]
      intro z
      rcases pk_ix x (show tn + 1 < 2 ^ 31 by omega) with w | w | ⟨i, hi, rfl⟩
      · exact q w
      · have := Int32.le_trans r z
        rw [mb_le (by omega) (by omega)] at this
        omega
      · rw [mb_le (by omega) (by omega)] at r
        omega
  | some k =>
    obtain ⟨k1, rfl, q, r⟩ := ixN_s (by omega) h1
    have e1 : nI tn - nI k = nI (tn - k) := pk_sub (by omega)
    dsimp only
    refine ⟨pI M 0 2 (nI (tn - k)), ?_, h.ag (agY.pI M 2 _ (LI := [2]) (LA := []) (by decide)) (by decide) (by decide) ⟨by omega, by rw [mb_II, if_pos ⟨rfl, rfl⟩], fun j hj => ht.2.2 j (by omega)⟩⟩
    rw [if_neg q, if_pos (by rw [mb_le (by omega) (by omega)]; omega), e1, mb_nm, mb_II, if_pos ⟨rfl, rfl⟩]
end MO2
