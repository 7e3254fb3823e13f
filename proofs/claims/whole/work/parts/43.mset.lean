/-! the reference: what goesThrough and settles leave -/
/-- the bits of each input -/
def BT (T : Tx) (M : St) : Prop := gI M 0 44 = nI (tIn T) ∧ ∀ i, i < tIn T → gA M 0 46 i = nI (bN T 0 i) ∧ gA M 0 47 i = nI (bN T 1 i) ∧ gA M 0 48 i = nI (bN T 2 i)
def has (a m : Nat) : Bool := Nat.beq (a &&& m) m
def isL (T : Tx) (laws softs i : Nat) : Bool := has (bN T 0 i) laws && has (bN T 1 i) softs
/-- is any input lawful by these -/
def anyTo (T : Tx) (laws softs : Nat) : Nat → Bool
  | 0 => false
  | n + 1 => anyTo T laws softs n || isL T laws softs n
def anyS (T : Tx) (laws softs : Nat) : Bool := anyTo T laws softs (tIn T)
theorem has_I {a m : Nat} (ha : a < 256) (hm : m < 256) : (nI a &&& nI m = nI m) = (has a m = true) := by
  have h : a &&& m < 256 := Nat.lt_of_le_of_lt Nat.and_le_right hm
  rw [nI_and, mb_eq (by omega) (by omega)]
  unfold has
  exact propext ⟨fun e => by rw [e]; exact Nat.beq_refl m, fun e => Nat.eq_of_beq_eq_true e⟩
theorem m_isAny {T : Tx} {M : St} (hw : wfT T) (hb : BT T M) {laws softs : Nat} (hl : laws < 256) (hs : softs < 256) : f_Model_isAny M (nI laws) (nI softs) = some (b2i (anyS T laws softs)) := by
  have n1 := hw.2.2.1
  unfold f_Model_isAny
  have key := wh_ix (f := Model_isAny_l2 M (nI laws) (nI softs)) (s := (0 : Int32)) (tIn T) (fun i x => x = nI i ∧ anyTo T laws softs i = false) (fun r => r = b2i (anyS T laws softs)) ⟨rfl, rfl⟩ ?_ ?_
  · obtain ⟨r, h1, h2⟩ := key
    rw [h1, h2]
  · intro i x hi hI
    obtain ⟨rfl, ha⟩ := hI
    obtain ⟨e1, e2, e3⟩ := hb.2 i hi
    have b0 := bN_lt hw (show (0 : Nat) < 5 by decide) i
    have b1 := bN_lt hw (show (1 : Nat) < 5 by decide) i
    have step : anyTo T laws softs (i + 1) = isL T laws softs i := by
      show (anyTo T laws softs i || isL T laws softs i) = _
      rw [ha]
      rfl
    unfold Model_isAny_l2
    rw [hb.1, if_neg (by rw [mb_le (by omega) (by omega)]; omega), mb_in (by omega) (by decide), mb_gd, mb_cl (by omega), e1, e2]
    have tail : isL T laws softs i = false → ∃ t, Model_isAny_j36_l2 M (nI laws) (nI softs) (nI i) = some (.inl t) ∧ (t = nI (i + 1) ∧ anyTo T laws softs (i + 1) = false) := by
      intro hf
      refine ⟨nI (i + 1), ?_, rfl, by rw [step]; exact hf⟩
      unfold Model_isAny_j36_l2
      rw [mb_nm, nI_1]
    by_cases c1 : has (bN T 0 i) laws = true
    · rw [if_pos (by rw [has_I b0 hl]; exact c1), mb_gd]
      by_cases c2 : has (bN T 1 i) softs = true
      · right
        refine ⟨1, by rw [if_pos (by rw [has_I b1 hs]; exact c2)], ?_⟩
        have ht : isL T laws softs i = true := by unfold isL; rw [c1, c2]; rfl
        have : ∀ n, i + 1 ≤ n → anyTo T laws softs n = true := by
          intro n hn
          induction hn with
          | refl => rw [step]; exact ht
          | step _ ih => show (anyTo T laws softs _ || _) = true; rw [ih]; rfl
        unfold anyS
        rw [this (tIn T) (by omega)]
        rfl
      · left
        rw [if_neg (by rw [has_I b1 hs]; exact c2)]
        exact tail (by unfold isL; rw [c1, Bool.eq_false_iff.mpr c2]; rfl)
    · left
      rw [if_neg (by rw [has_I b0 hl]; exact c1)]
      exact tail (by unfold isL; rw [Bool.eq_false_iff.mpr c1]; rfl)
  · intro x hI
    obtain ⟨rfl, ha⟩ := hI
    refine ⟨0, ?_, ?_⟩
    · unfold Model_isAny_l2
      rw [hb.1, if_pos (by rw [mb_le (by omega) (by omega)]; omega)]
    · unfold anyS
      rw [ha]
      rfl
/-- the laws that are on, out of the reference's own bits -/
theorem sh_mask : ∀ n, n ≤ 8 → ((1 : Int32) <<< (nI n &&& 31)) - 1 = nI (2 ^ n - 1) := by decide
def ON (T : Tx) (on : Nat) (M : St) : Prop := gI M 0 52 &&& nI (2 ^ tNt T 0 - 1) = nI on ∧ on < 2 ^ tNt T 0
theorem m_laws {lv : Nat} {T : Tx} {M : St} (hw : wfT T) (h : MT lv T M) {on : Nat} (ho : ON T on M) : f_Model_laws M = some (nI on) := by
  unfold f_Model_laws
  rw [l0, m_tellsOf h (by decide), mb_bd, sh_mask _ (hw.2.2.2.1 0 (by decide)), ho.1]
/-- the soft one that is looked at next -/
def nxTo (T : Tx) (asked : Nat) : Nat → Option Nat
  | 0 => none
  | k + 1 => cond (asked.testBit k) (nxTo T asked k) (match nxTo T asked k with
    | none => some k
    | some b => if tWt T b < tWt T k then some k else some b)
/-- KEPT and what was looked at, behind n looks -/
def keTo (T : Tx) (laws : Nat) : Nat → Nat × Nat
  | 0 => (0, 0)
  | n + 1 => match nxTo T (keTo T laws n).2 (tNt T 1) with
    | none => keTo T laws n
    | some b => (cond (anyS T laws ((keTo T laws n).1 ||| 2 ^ b)) ((keTo T laws n).1 ||| 2 ^ b) (keTo T laws n).1, (keTo T laws n).2 ||| 2 ^ b)
def keS (T : Tx) (laws : Nat) : Nat := cond (anyS T laws 0) (keTo T laws (tNt T 1)).1 0
/-- the SHARE of an input -/
def shTo (T : Tx) (i : Nat) : Nat → Option Nat
  | 0 => none
  | k + 1 => match shTo T i k with
    | some a => some a
    | none => cond (tCd T 4 k (tEv T i) (tEv T i)) (some k) none
def cl3 (v : Int32) : Int32 := if 0 ≤ v then (if v ≤ 1000 then v else 1000) else 0
def shI (T : Tx) (i : Nat) : Int32 := match shTo T i (tNt T 4) with
  | none => 1
  | some k => cl3 (tAm T k (tEv T i))
theorem cl3_of (v : Int32) : ∃ n : Nat, n ≤ 1000 ∧ cl3 v = nI n := by
  unfold cl3
  by_cases h0 : 0 ≤ v
  · rw [if_pos h0]
    by_cases h1 : v ≤ 1000
    · rw [if_pos h1]
      obtain ⟨j, hj, e⟩ := nI_of2 (x := v) (M := 1000) (n := 1000) rfl (fun h => absurd (Int32.lt_of_lt_of_le h h0) Int32.lt_irrefl) h1
      exact ⟨j, hj, e⟩
    · rw [if_neg h1]
      exact ⟨1000, Nat.le_refl _, rfl⟩
  · rw [if_neg h0]
    exact ⟨0, by omega, rfl⟩
def shN (T : Tx) (i : Nat) : Nat := (shI T i).toNatClampNeg
theorem shI_N (T : Tx) (i : Nat) : shI T i = nI (shN T i) ∧ shN T i ≤ 1000 := by
  have key : ∃ n : Nat, n ≤ 1000 ∧ shI T i = nI n := by
    unfold shI
    cases shTo T i (tNt T 4) with
    | none => exact ⟨1, by omega, rfl⟩
    | some k => exact cl3_of _
  obtain ⟨n, hn, e⟩ := key
  unfold shN
  rw [e, mb_cl (by omega)]
  exact ⟨rfl, hn⟩
theorem m_shareOf {lv : Nat} {T : Tx} {M : St} (hw : wfT T) (h : MT lv T M) (hh : HO lv T M) (ht : TE lv T M) (hd : SD T M) {i : Nat} (hi : i < 32768) : ∃ M', f_Model_shareOf M (nI i) = some (nI (shN T i), M') ∧ agX [49, 51] M M' := by
  have n8 := hw.2.2.2.1 4 (by decide)
  obtain ⟨M1, h1, a1, v1⟩ := m_looksAt hw h hd hi
  have a1' : agX [49, 51] M M1 := a1.wk (by decide)
  have aT1 : agT lv M M1 := a1.toT (by decide) lv
  have hM1 := h.ag hw aT1
  unfold f_Model_shareOf
  rw [h1, mb_bd]
  have key := wh_ix (f := un2 Model_shareOf_l7) (s := (M1, (0 : Int32))) (tNt T 4) (fun k q => q.2 = nI k ∧ agX [51] M1 q.1 ∧ shTo T i k = none) (fun r => r.1 = nI (shN T i) ∧ agX [51] M1 r.2) ⟨rfl, agX.rf M1, rfl⟩ ?_ ?_
  · obtain ⟨r, h2, h3⟩ := key
    obtain ⟨v, M2⟩ := r
    obtain ⟨e1, a2⟩ := h3
    dsimp only at e1 a2
    subst e1
    exact ⟨M2, h2, a1'.tr (a2.wk (by decide))⟩
  · intro k q hk hI
    obtain ⟨M2, x2⟩ := q
    obtain ⟨e1, a2, hn⟩ := hI
    dsimp only at e1 a2 hn
    subst e1
    have aT2 : agT lv M M2 := aT1.tr (a2.toT (by decide) lv)
    have hM2 := h.ag hw aT2
    have vv : ∀ f, f < tNf T → gA M2 0 49 f = tEv T i f := fun f hf => by rw [a2.2.2.2 49 (by decide)]; exact v1 f hf
    obtain ⟨M3, h3, a3⟩ := hh M2 aT2 4 k (by decide) hk
    have ec : tCd T 4 k (gA M2 0 49) (gA M2 0 50) = tCd T 4 k (tEv T i) (tEv T i) := hw.2.2.2.2.2.1 4 k (by decide) hk _ _ _ _ vv (fun e => by omega)
    rw [ec] at h3
    have step : Model_shareOf_l7 M2 (nI k) = bd2 (some (b2i (tCd T 4 k (tEv T i) (tEv T i)), M3)) fun v_9 S_10 => if v_9 = 0 then (nm (nI k + (1 : Int32)) fun x2_19 => some (.inl (S_10, x2_19))) else (gd (inb (nI (40 * lv + (8 * 4 + k))) 80) <| gd (inb (nI (40 * lv + (8 * 4 + k))) 80) <| bd2 (f_Model_termOf S_10 (gA S_10 0 29 (nI (40 * lv + (8 * 4 + k))).toNatClampNeg) (gA S_10 0 30 (nI (40 * lv + (8 * 4 + k))).toNatClampNeg)) fun v_15 S_16 => if 0 ≤ v_15 then (if v_15 ≤ (1000 : Int32) then (Model_shareOf_j77_l7 S_16 v_15) else (Model_shareOf_j77_l7 S_16 (1000 : Int32))) else (Model_shareOf_j77_l7 S_16 (0 : Int32))) := by
      unfold Model_shareOf_l7
      rw [show (4 : Int32) = nI 4 from rfl, m_tellsOf hM2 (by decide), mb_bd, if_neg (by rw [mb_le (by omega) (by omega)]; omega), m_condOf hM2, mb_bd, h3]
    have hlv := h.1
    cases hc : tCd T 4 k (tEv T i) (tEv T i) with
    | false =>
      left
      refine ⟨(M3, nI (k + 1)), ?_, rfl, a2.tr a3, ?_⟩
      · show Model_shareOf_l7 M2 (nI k) = _
        rw [step, mb_bd2, hc, if_pos (by rfl), mb_nm, nI_1]
      · show (match shTo T i k with | some a => some a | none => cond (tCd T 4 k (tEv T i) (tEv T i)) (some k) none) = none
        rw [hn, hc]
        rfl
    | true =>
      right
      have aT3 : agT lv M M3 := aT2.tr (a3.toT (by decide) lv)
      obtain ⟨M4, h4, a4⟩ := ht M3 aT3 k hk
      have ea : tAm T k (gA M3 0 49) = tAm T k (tEv T i) := hw.2.2.2.2.2.2 k hk _ _ (fun f hf => by rw [a3.2.2.2 49 (by decide)]; exact vv f hf)
      rw [ea] at h4
      have es : shTo T i (k + 1) = some k := by
        show (match shTo T i k with | some a => some a | none => cond (tCd T 4 k (tEv T i) (tEv T i)) (some k) none) = some k
        rw [hn, hc]
        rfl
      have ef : ∀ n, k + 1 ≤ n → shTo T i n = some k := by
        intro n hn
        induction hn with
        | refl => exact es
        | step _ ih => show (match shTo T i _ with | some a => some a | none => _) = some k; rw [ih]
      have esh : shI T i = cl3 (tAm T k (tEv T i)) := by
        unfold shI
        rw [ef (tNt T 4) (by omega)]
      refine ⟨(nI (shN T i), M4), ?_, rfl, a2.tr (a3.tr a4)⟩
      show Model_shareOf_l7 M2 (nI k) = _
      rw [step, mb_bd2, hc, if_neg (by decide), mb_in (by omega) (by decide), mb_gd, mb_gd, mb_cl (by omega), h4, mb_bd2, ← (shI_N T i).1, esh]
      unfold cl3 Model_shareOf_j77_l7
      by_cases c0 : 0 ≤ tAm T k (tEv T i)
      · rw [if_pos c0, if_pos c0]
        by_cases c1 : tAm T k (tEv T i) ≤ 1000
        · rw [if_pos c1, if_pos c1]
        · rw [if_neg c1, if_neg c1]
      · rw [if_neg c0, if_neg c0]
  · intro q hI
    obtain ⟨M2, x2⟩ := q
    obtain ⟨e1, a2, hn⟩ := hI
    dsimp only at e1 a2 hn
    subst e1
    have hM2 := h.ag hw (aT1.tr (a2.toT (by decide) lv))
    refine ⟨(nI (shN T i), M2), ?_, rfl, a2⟩
    show Model_shareOf_l7 M2 (nI (tNt T 4)) = _
    unfold Model_shareOf_l7
    rw [show (4 : Int32) = nI 4 from rfl, m_tellsOf hM2 (by decide), mb_bd, if_pos (by rw [mb_le (by omega) (by omega)]; omega), ← (shI_N T i).1]
    unfold shI
    rw [hn]
