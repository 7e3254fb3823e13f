/-! the reference: fill, fills -/
def bq (T : Tx) (on k : Nat) : Nat := bN T 2 ((lwS T on).getD k 0)
theorem bq_lt {T : Tx} (hw : wfT T) (on k : Nat) : bq T on k < 256 := bN_lt hw (show (2 : Nat) < 5 by decide) _
def orK (T : Tx) (on : Nat) : Nat → Nat
  | 0 => 0
  | k + 1 => orK T on k ||| bq T on k
theorem orK_lt {T : Tx} (hw : wfT T) (on : Nat) : ∀ k, orK T on k < 256
  | 0 => by show 0 < 256; decide
  | k + 1 => Nat.or_lt_two_pow (n := 8) (orK_lt hw on k) (bq_lt hw on k)
theorem orK_tb (T : Tx) (on j : Nat) : ∀ k, (orK T on k).testBit j = true ↔ ∃ i, i < k ∧ (bq T on i).testBit j = true
  | 0 => by
    refine ⟨fun h => ?_, fun ⟨i, h, _⟩ => absurd h (Nat.not_lt_zero i)⟩
    have h' : (0 : Nat).testBit j = true := h
    simp at h'
  | k + 1 => by
    show (orK T on k ||| bq T on k).testBit j = true ↔ _
    rw [Nat.testBit_or, Bool.or_eq_true, orK_tb T on j k]
    constructor
    · rintro (⟨i, h1, h2⟩ | h)
      · exact ⟨i, by omega, h2⟩
      · exact ⟨k, by omega, h⟩
    · rintro ⟨i, h1, h2⟩
      rcases Nat.lt_or_ge i k with q | q
      · exact Or.inl ⟨i, q, h2⟩
      · have : i = k := by omega
        rw [this] at h2
        exact Or.inr h2
/-- the bins that the FILL is to meet -/
def waS (T : Tx) (on : Nat) (lg : List Nat) : Nat := orK T on (lwS T on).length &&& woS T lg
theorem wa_lt {T : Tx} (hw : wfT T) (on : Nat) (lg : List Nat) : waS T on lg < 256 := Nat.lt_of_le_of_lt Nat.and_le_left (orK_lt hw on _)
theorem wa_full (T : Tx) (on : Nat) (lg : List Nat) {j : Nat} (h : (waS T on lg).testBit j = true) : ∃ k, k < (lwS T on).length ∧ (bq T on k).testBit j = true := by
  unfold waS at h
  rw [Nat.testBit_and, Bool.and_eq_true] at h
  exact (orK_tb T on j _).1 h.1
/-- the last place with these bits, of the first n -/
def loK (T : Tx) (on W o : Nat) : Nat → Option Nat
  | 0 => none
  | k + 1 => if bq T on k &&& W = o then some k else loK T on W o k
theorem loK_s {T : Tx} {on W o : Nat} : ∀ {n k : Nat}, loK T on W o n = some k → k < n ∧ bq T on k &&& W = o ∧ ∀ i, i < n → bq T on i &&& W = o → i ≤ k
  | 0, k, h => (by cases h)
  | n + 1, k, h => by
    have e : loK T on W o (n + 1) = if bq T on n &&& W = o then some n else loK T on W o n := rfl
    rw [e] at h
    by_cases c : bq T on n &&& W = o
    · rw [if_pos c] at h
      cases h
      exact ⟨by omega, c, fun i hi _ => by omega⟩
    · rw [if_neg c] at h
      obtain ⟨h1, h2, h3⟩ := loK_s h
      refine ⟨by omega, h2, fun i hi q => ?_⟩
      rcases Nat.lt_or_ge i n with r | r
      · exact h3 i r q
      · have : i = n := by omega
        rw [this] at q
        exact absurd q c
theorem loK_n {T : Tx} {on W o : Nat} : ∀ {n : Nat}, loK T on W o n = none → ∀ i, i < n → bq T on i &&& W ≠ o
  | 0, _, i, hi => absurd hi (Nat.not_lt_zero i)
  | n + 1, h, i, hi => by
    have e : loK T on W o (n + 1) = if bq T on n &&& W = o then some n else loK T on W o n := rfl
    rw [e] at h
    by_cases c : bq T on n &&& W = o
    · rw [if_pos c] at h
      cases h
    · rw [if_neg c] at h
      rcases Nat.lt_or_ge i n with r | r
      · exact loK_n h i r
      · have : i = n := by omega
        rw [this]
        exact c
section MO9
variable {T : Tx} {on tn : Nat} {lg : List Nat} {tb : Nat → Int32} {pl : Int32} {M : St}
theorem l256 : (256 : Int32) = nI 256 := rfl
def LO (T : Tx) (on W : Nat) (M : St) : Prop := gI M 0 62 = nI W ∧ ∀ o, o < 256 → gA M 0 60 o = oI (loK T on W o (lwS T on).length)
theorem m_wants (h : mInv T on lg tn tb pl M) : ∃ M', f_Model_wants M = some M' ∧ mInv T on lg tn tb pl M' ∧ LO T on (waS T on lg) M' := by
  obtain ⟨hw, ⟨lv, hM, -, -⟩, -, hb, -, hs, -, -, hl, -⟩ := id h
  have hlen := lwS_len hw on
  have n1 := hw.2.2.1
  have hW := wa_lt hw on lg
  unfold f_Model_wants
  have k1 := wh_ix (f := un2 (Model_wants_l4 M)) (s := ((0 : Int32), (0 : Int32))) (lwS T on).length (fun k q => q.2 = nI k ∧ q.1 = nI (orK T on k)) (fun r => r = nI (orK T on (lwS T on).length)) ⟨rfl, rfl⟩ ?_ ?_
  · obtain ⟨r, r1, r2⟩ := k1
    rw [r1, r2, mb_bd, m_without hw hM hb hl, mb_bd, nI_and, mb_nm]
    show ∃ M', (bd (wh (un2 Model_wants_l44) (pI M 0 62 (nI (waS T on lg)), (0 : Int32))) fun S_15 => bd (wh (un2 Model_wants_l66) (S_15, (0 : Int32))) fun S_23 => some S_23) = some M' ∧ _
    have k2 := wh_ix (f := un2 Model_wants_l44) (s := (pI M 0 62 (nI (waS T on lg)), (0 : Int32))) 256 (fun o q => q.2 = nI o ∧ agZ [62] [60] [] M q.1 ∧ gI q.1 0 62 = nI (waS T on lg) ∧ ∀ j, j < o → gA q.1 0 60 j = -1) (fun M' => agZ [62] [60] [] M M' ∧ gI M' 0 62 = nI (waS T on lg) ∧ ∀ j, j < 256 → gA M' 0 60 j = -1) ⟨rfl, agZ.pI M 62 _ (by decide), by rw [mb_II, if_pos ⟨rfl, rfl⟩], fun j hj => absurd hj (Nat.not_lt_zero j)⟩ ?_ ?_
    · obtain ⟨M1, h1, a1, g1, v1⟩ := k2
      rw [h1, mb_bd]
      have k3 := wh_ix (f := un2 Model_wants_l66) (s := (M1, (0 : Int32))) (lwS T on).length (fun k q => q.2 = nI k ∧ agZ [62] [60] [] M q.1 ∧ gI q.1 0 62 = nI (waS T on lg) ∧ ∀ o, o < 256 → gA q.1 0 60 o = oI (loK T on (waS T on lg) o k)) (fun M' => agZ [62] [60] [] M M' ∧ gI M' 0 62 = nI (waS T on lg) ∧ ∀ o, o < 256 → gA M' 0 60 o = oI (loK T on (waS T on lg) o (lwS T on).length)) ⟨rfl, a1, g1, v1⟩ ?_ ?_
      · obtain ⟨M2, h2, a2, g2, v2⟩ := k3
        rw [h2, mb_bd]
        exact ⟨M2, rfl, h.az a2 (by decide) (by decide) (by decide), g2, v2⟩
      · intro k q hk hI
        obtain ⟨M2, x2⟩ := q
        obtain ⟨e1, a2, g2, v2⟩ := hI
        dsimp only at e1 a2 g2 v2
        subst e1
        obtain ⟨-, -, -, hb2, -, hs2, -⟩ := h.az a2 (by decide) (by decide) (by decide)
        have hx := lwS_lt (get_some hk)
        have h8 : bq T on k &&& waS T on lg < 256 := Nat.lt_of_le_of_lt Nat.and_le_left (bq_lt hw on k)
        left
        refine ⟨(pA M2 0 60 (bq T on k &&& waS T on lg) (nI k), nI (k + 1)), ?_, rfl, a2.tr (agZ.pA M2 60 _ _ (by decide)), g2, ?_⟩
        · show Model_wants_l66 M2 (nI k) = _
          unfold Model_wants_l66
          rw [hs2.2.1, if_neg (by rw [mb_le (by omega) (by omega)]; omega), mb_in (by omega) (by decide), mb_gd, mb_cl (by omega), (hs2.2.2.2 k _ (get_some hk)).1, mb_in (by omega) (by decide), mb_gd, mb_cl (by omega), (hb2.2 _ hx).2.2, g2, nI_and]
          show (gd (inb (nI (bq T on k &&& waS T on lg)) 256) <| nm (pA M2 0 60 (nI (bq T on k &&& waS T on lg)).toNatClampNeg (nI k)) fun S_21 => nm (nI k + 1) fun x2_22 => some (Sum.inl (S_21, x2_22))) = _
          rw [mb_in (by omega) (by decide), mb_gd, mb_cl (by omega), mb_nm, nI_1, mb_nm]
        · intro o ho
          show gA (pA M2 0 60 _ _) 0 60 o = oI (if bq T on k &&& waS T on lg = o then some k else loK T on (waS T on lg) o k)
          rw [mb_AA]
          by_cases c : bq T on k &&& waS T on lg = o
          · rw [if_pos c, if_pos ⟨rfl, rfl, c.symm⟩]; rfl
          · rw [if_neg c, if_neg (fun z => c z.2.2.symm)]; exact v2 o ho
      · intro q hI
        obtain ⟨M2, x2⟩ := q
        obtain ⟨e1, a2, g2, v2⟩ := hI
        dsimp only at e1 a2 g2 v2
        subst e1
        obtain ⟨-, -, -, hb2, -, hs2, -⟩ := h.az a2 (by decide) (by decide) (by decide)
        refine ⟨M2, ?_, a2, g2, v2⟩
        show Model_wants_l66 M2 (nI (lwS T on).length) = _
        unfold Model_wants_l66
        rw [hs2.2.1, if_pos (by rw [mb_le (by omega) (by omega)]; omega)]
    · intro o q ho hI
      obtain ⟨M2, x2⟩ := q
      obtain ⟨e1, a2, g2, v2⟩ := hI
      dsimp only at e1 a2 g2 v2
      subst e1
      left
      refine ⟨(pA M2 0 60 o (-1), nI (o + 1)), ?_, rfl, a2.tr (agZ.pA M2 60 _ _ (by decide)), g2, ?_⟩
      · show Model_wants_l44 M2 (nI o) = _
        unfold Model_wants_l44
        rw [if_neg (by rw [l256, mb_le (by omega) (by omega)]; omega), mb_in (by omega) (by decide), mb_gd, mb_cl (by omega), mb_nm, nI_1, mb_nm]
      · intro j hj
        show gA (pA M2 0 60 o (-1)) 0 60 j = -1
        rw [mb_AA]
        by_cases c : j = o
        · rw [if_pos ⟨rfl, rfl, c⟩]
        · rw [if_neg (fun z => c z.2.2)]; exact v2 j (by omega)
    · intro q hI
      obtain ⟨M2, x2⟩ := q
      obtain ⟨e1, a2, g2, v2⟩ := hI
      dsimp only at e1 a2 g2 v2
      subst e1
      refine ⟨M2, ?_, a2, g2, v2⟩
      show Model_wants_l44 M2 (nI 256) = _
      unfold Model_wants_l44
      rw [if_pos (by rw [l256, mb_le (by omega) (by omega)]; omega)]
  · intro k q hk hI
    obtain ⟨x1, x2⟩ := q
    obtain ⟨e1, e2⟩ := hI
    dsimp only at e1 e2
    subst e1 e2
    have hx := lwS_lt (get_some hk)
    left
    refine ⟨(nI (orK T on (k + 1)), nI (k + 1)), ?_, rfl, rfl⟩
    show Model_wants_l4 M (nI (orK T on k)) (nI k) = _
    unfold Model_wants_l4
    rw [hs.2.1, if_neg (by rw [mb_le (by omega) (by omega)]; omega), mb_in (by omega) (by decide), mb_gd, mb_cl (by omega), (hs.2.2.2 k _ (get_some hk)).1, mb_in (by omega) (by decide), mb_gd, mb_cl (by omega), (hb.2 _ hx).2.2, nI_or, nI_1, mb_nm, mb_nm]
    rfl
  · intro q hI
    obtain ⟨x1, x2⟩ := q
    obtain ⟨e1, e2⟩ := hI
    dsimp only at e1 e2
    subst e1 e2
    refine ⟨_, ?_, rfl⟩
    show Model_wants_l4 M _ (nI (lwS T on).length) = _
    unfold Model_wants_l4
    rw [hs.2.1, if_pos (by rw [mb_le (by omega) (by omega)]; omega)]
/-- which bits are to be had behind a place -/
def avB (T : Tx) (on W b1 o : Nat) : Prop := ∃ k, b1 ≤ k ∧ k < (lwS T on).length ∧ bq T on k &&& W = o
def BH (T : Tx) (on W b1 : Nat) (x : Int32) (M : St) : Prop := ∀ o, o < 256 → (gA M 0 60 o ≤ x ↔ ¬ avB T on W b1 o)
theorem bh_0 (hw : wfT T) {W : Nat} (hl : LO T on W M) : BH T on W 0 (-1) M := by
  intro o ho
  have hlen := lwS_len hw on
  rw [hl.2 o ho]
  cases hk : loK T on W o (lwS T on).length with
  | none => exact ⟨fun _ ⟨k, _, h2, h3⟩ => loK_n hk k h2 h3, fun _ => Int32.le_refl _⟩
  | some k =>
    obtain ⟨h1, h2, h3⟩ := loK_s hk
    refine ⟨fun q => ?_, fun q => absurd ⟨k, Nat.zero_le _, h1, h2⟩ q⟩
    have : nI k < 0 := Int32.lt_of_le_of_lt q (by decide)
    exact absurd this (nI_pos (by omega))
theorem bh_1 (hw : wfT T) {W p : Nat} (hp : p < (lwS T on).length) (hl : LO T on W M) : BH T on W (p + 1) (nI p) M := by
  intro o ho
  have hlen := lwS_len hw on
  rw [hl.2 o ho]
  cases hk : loK T on W o (lwS T on).length with
  | none => exact ⟨fun _ ⟨k, _, h2, h3⟩ => loK_n hk k h2 h3, fun _ => Int32.le_trans (show (-1 : Int32) ≤ 0 by decide) (nI_pos' (by omega))⟩
  | some k =>
    obtain ⟨h1, h2, h3⟩ := loK_s hk
    show nI k ≤ nI p ↔ _
    rw [mb_le (by omega) (by omega)]
    exact ⟨fun q ⟨i, i1, i2, i3⟩ => by have := h3 i i2 i3; omega, fun q => by
      rcases Nat.lt_or_ge p k with r | r
      · exact absurd ⟨k, r, h1, h2⟩ q
      · exact r⟩
/-- the table of need: those of the parts of the set below m stand, the others are 9 -/
def NF (T : Tx) (on b1 set m : Nat) (F : Nat → Nat) : Prop := F 0 = 0 ∧ (∀ j, j < m → sb j set → Mn (fun k => b1 ≤ k ∧ k < (lwS T on).length) (bq T on) j (F j)) ∧ (∀ j, m ≤ j → 0 < j → F j = 9) ∧ ∀ j, F j ≤ 9
theorem m_need1 {W b1 set m : Nat} {x1 x : Int32} {F : Nat → Nat} (hw : wfT T) (hset : set < 256) (hsW : sb set W) (hBH : BH T on W b1 x M) (hm0 : 0 < m) (hm : m < 256) (hms : sb m set) (hF : NF T on b1 set m F) (hA : ∀ j, j < 256 → gA M 0 61 j = nI (F j)) : ∃ M' v, wh (un2 (Model_need_l54 x1 x (nI m))) (M, (1 : Int32)) = some M' ∧ agX [61] M M' ∧ v ≤ 9 ∧ Mn (fun k => b1 ≤ k ∧ k < (lwS T on).length) (bq T on) m v ∧ ∀ j, j < 256 → gA M' 0 61 j = nI (if j = m then v else F j) := by
  obtain ⟨f0, f1, f2, f3⟩ := hF
  have key := wh_ix (f := un2 (Model_need_l54 x1 x (nI m))) (s := (M, (1 : Int32))) 255 (fun i q => q.2 = nI (i + 1) ∧ agX [61] M q.1 ∧ ∃ v, v ≤ 9 ∧ (∀ j, j < 256 → gA q.1 0 61 j = nI (if j = m then v else F j)) ∧ (∀ o, o < i + 1 → avB T on W b1 o → o &&& m ≠ 0 → v ≤ F (df m o) + 1) ∧ (v < 9 → ∃ o, o < 256 ∧ avB T on W b1 o ∧ o &&& m ≠ 0 ∧ v = F (df m o) + 1)) (fun M' => agX [61] M M' ∧ ∃ v, v ≤ 9 ∧ (∀ j, j < 256 → gA M' 0 61 j = nI (if j = m then v else F j)) ∧ (∀ o, o < 256 → avB T on W b1 o → o &&& m ≠ 0 → v ≤ F (df m o) + 1) ∧ (v < 9 → ∃ o, o < 256 ∧ avB T on W b1 o ∧ o &&& m ≠ 0 ∧ v = F (df m o) + 1)) ⟨rfl, agX.rf M, 9, Nat.le_refl 9, ?_, ?_, fun q => absurd q (by decide)⟩ ?_ ?_
  · obtain ⟨M', h1, a1, v, v1, v2, v3, v4⟩ := key
    refine ⟨M', v, h1, a1, v1, ?_, v2⟩
    obtain ⟨x0, hx0⟩ := ne_bit (show m ≠ 0 by omega)
    have dm : ∀ k, df m (bq T on k &&& W) = df m (bq T on k) := fun k => df_mask (hms.tr hsW) _
    have aw : ∀ k j, m.testBit j = true → (bq T on k).testBit j = true → (bq T on k &&& W) &&& m ≠ 0 := by
      intro k j hj hk e
      have := congrArg (fun z => Nat.testBit z j) e
      simp only [Nat.testBit_and, hk, hj, hsW j (hms j hj)] at this
      simp at this
    refine Mn.step (F := F) (by omega) v1 ?_ x0 hx0 ?_ ?_
    · rintro k hk ⟨j, j1, j2⟩
      exact f1 _ (df_lt j1 j2) ((sb_df m _).tr hms)
    · intro k hk hkx
      have := v3 (bq T on k &&& W) (Nat.lt_of_le_of_lt Nat.and_le_left (bq_lt hw on k)) ⟨k, hk.1, hk.2, rfl⟩ (aw k x0 hx0 hkx)
      rw [dm] at this
      exact this
    · intro hv
      obtain ⟨o, o1, ⟨k, k1, k2, k3⟩, o3, o4⟩ := v4 hv
      subst k3
      rw [dm] at o4
      obtain ⟨j, hj⟩ := ne_bit o3
      rw [Nat.testBit_and, Nat.testBit_and, Bool.and_eq_true, Bool.and_eq_true] at hj
      exact ⟨k, ⟨k1, k2⟩, ⟨j, hj.2, hj.1.1⟩, o4⟩
  · intro j hj
    rw [hA j hj]
    by_cases e : j = m
    · rw [if_pos e, e, f2 m (Nat.le_refl _) hm0]
    · rw [if_neg e]
  · intro o ho _ h3
    have : o = 0 := by omega
    rw [this, Nat.zero_and] at h3
    exact absurd rfl h3
  · intro i q hi hI
    obtain ⟨M1, x4⟩ := q
    obtain ⟨e1, a1, v, v1, v2, v3, v4⟩ := hI
    dsimp only at e1 a1 v2
    subst e1
    left
    have g60 : gA M1 0 60 (i + 1) = gA M 0 60 (i + 1) := by rw [a1.2.2.2 60 (by decide)]
    have stay : ∀ (hno : avB T on W b1 (i + 1) → (i + 1) &&& m ≠ 0 → v ≤ F (df m (i + 1)) + 1), ∃ t, Model_need_j121_l54 M1 x1 x (nI m) (nI (i + 1)) = some (.inl t) ∧ (t.2 = nI (i + 1 + 1) ∧ agX [61] M t.1 ∧ ∃ v, v ≤ 9 ∧ (∀ j, j < 256 → gA t.1 0 61 j = nI (if j = m then v else F j)) ∧ (∀ o, o < i + 1 + 1 → avB T on W b1 o → o &&& m ≠ 0 → v ≤ F (df m o) + 1) ∧ (v < 9 → ∃ o, o < 256 ∧ avB T on W b1 o ∧ o &&& m ≠ 0 ∧ v = F (df m o) + 1)) := by
      intro hno
      refine ⟨(M1, nI (i + 2)), ?_, rfl, a1, v, v1, v2, ?_, v4⟩
      · unfold Model_need_j121_l54
        rw [nI_1, mb_nm]
      · intro o ho h2 h3
        rcases Nat.lt_or_ge o (i + 1) with c | c
        · exact v3 o c h2 h3
        · have : o = i + 1 := by omega
          subst this
          exact hno h2 h3
    show ∃ t, Model_need_l54 x1 x (nI m) M1 (nI (i + 1)) = some (.inl t) ∧ _
    unfold Model_need_l54
    rw [if_neg (by rw [l256, mb_le (by omega) (by omega)]; omega), mb_in (by omega) (by decide), mb_gd, mb_cl (show i + 1 < 2147483648 by omega), g60]
    by_cases c1 : gA M 0 60 (i + 1) ≤ x
    · rw [if_pos c1]
      exact stay (fun h2 => absurd h2 ((hBH (i + 1) (by omega)).1 c1))
    rw [if_neg c1, nI_and]
    have hav : avB T on W b1 (i + 1) := Classical.byContradiction (fun q => c1 ((hBH (i + 1) (by omega)).2 q))
    have han : (i + 1) &&& m < 256 := Nat.lt_of_le_of_lt Nat.and_le_right hm
    by_cases c2 : (i + 1) &&& m = 0
    · rw [if_pos (by rw [c2]; rfl)]
      exact stay (fun _ h3 => absurd c2 h3)
    rw [if_neg (by rw [l0, mb_eq (by omega) (by omega)]; exact c2)]
    have hd8 := df_le8 (i + 1) hm
    have hdne : df m (i + 1) ≠ m := by
      obtain ⟨j, hj⟩ := ne_bit c2
      rw [Nat.testBit_and, Bool.and_eq_true] at hj
      have := df_lt hj.2 hj.1
      omega
    have ed : nI m &&& (nI (i + 1) ^^^ (-1)) = nI (df m (i + 1)) := df_I hm (by omega)
    have hfd := f3 (df m (i + 1))
    rw [ed, mb_in (by omega) (by decide), mb_gd, mb_gd, mb_in (by omega) (by decide), mb_gd, mb_gd, mb_cl (show m < 2147483648 by omega), mb_cl (show df m (i + 1) < 2147483648 by omega), v2 m hm, if_pos rfl, v2 _ hd8, if_neg hdne, nI_1]
    by_cases c3 : v ≤ F (df m (i + 1)) + 1
    · rw [if_pos (by rw [mb_le (by omega) (by omega)]; exact c3)]
      exact stay (fun _ _ => c3)
    · rw [if_neg (by rw [mb_le (by omega) (by omega)]; exact c3), mb_nm]
      refine ⟨(pA M1 0 61 m (nI (F (df m (i + 1)) + 1)), nI (i + 2)), ?_, rfl, a1.tr (agX.put M1 61 _ _ (by decide)), F (df m (i + 1)) + 1, by omega, ?_, ?_, fun _ => ⟨i + 1, by omega, hav, c2, rfl⟩⟩
      · unfold Model_need_j121_l54
        rw [nI_1, mb_nm]
      · intro j hj
        show gA (pA M1 0 61 m _) 0 61 j = _
        rw [mb_AA]
        by_cases e : j = m
        · rw [if_pos ⟨rfl, rfl, e⟩, if_pos e]
        · rw [if_neg (fun z => e z.2.2), if_neg e]
          have := v2 j hj
          rw [if_neg e] at this
          exact this
      · intro o ho h2 h3
        rcases Nat.lt_or_ge o (i + 1) with c | c
        · have := v3 o c h2 h3
          omega
        · have : o = i + 1 := by omega
          subst this
          omega
  · intro q hI
    obtain ⟨M1, x4⟩ := q
    obtain ⟨e1, a1, v, v1, v2, v3, v4⟩ := hI
    dsimp only at e1 a1 v2
    subst e1
    refine ⟨M1, ?_, a1, v, v1, v2, v3, v4⟩
    show Model_need_l54 x1 x (nI m) M1 (nI 256) = _
    unfold Model_need_l54
    rw [if_pos (by rw [l256, mb_le (by omega) (by omega)]; omega)]
theorem m_need {W b1 set : Nat} {x : Int32} (hw : wfT T) (hset : set < 256) (hsW : sb set W) (hBH : BH T on W b1 x M) : ∃ M' v, f_Model_need M (nI set) x = some (nI v, M') ∧ agX [61] M M' ∧ Mn (fun k => b1 ≤ k ∧ k < (lwS T on).length) (bq T on) set v := by
  unfold f_Model_need
  have k1 := wh_ix (f := un2 (Model_need_l2 (nI set) x)) (s := (M, (0 : Int32))) 256 (fun m q => q.2 = nI m ∧ agX [61] M q.1 ∧ ∀ j, j < m → gA q.1 0 61 j = nI (if j = 0 then 0 else 9)) (fun M' => agX [61] M M' ∧ ∀ j, j < 256 → gA M' 0 61 j = nI (if j = 0 then 0 else 9)) ⟨rfl, agX.rf M, fun j hj => absurd hj (Nat.not_lt_zero j)⟩ ?_ ?_
  · obtain ⟨M1, h1, a1, v1⟩ := k1
    rw [h1, mb_bd]
    have k2 := wh_ix (f := un2 (Model_need_l33 (nI set) x)) (s := (M1, (1 : Int32))) 255 (fun i q => q.2 = nI (i + 1) ∧ agX [61] M q.1 ∧ ∃ F, NF T on b1 set (i + 1) F ∧ ∀ j, j < 256 → gA q.1 0 61 j = nI (F j)) (fun M' => agX [61] M M' ∧ ∃ F, NF T on b1 set 256 F ∧ ∀ j, j < 256 → gA M' 0 61 j = nI (F j)) ⟨rfl, a1, fun j => if j = 0 then 0 else 9, ⟨rfl, ?_, ?_, ?_⟩, v1⟩ ?_ ?_
    · obtain ⟨M2, h2, a2, F, hF, hA⟩ := k2
      refine ⟨M2, F set, ?_, a2, hF.2.1 set hset (sb.rf set)⟩
      rw [h2, mb_bd, mb_in (by omega) (by decide), mb_gd, mb_cl (by omega), hA set hset]
    · intro j hj _
      have : j = 0 := by omega
      subst this
      exact Mn.z _ _
    · intro j hj h0
      dsimp only
      rw [if_neg (by omega)]
    · intro j
      dsimp only
      by_cases e : j = 0
      · rw [if_pos e]; omega
      · rw [if_neg e]; omega
    · intro i q hi hI
      obtain ⟨M2, x3⟩ := q
      obtain ⟨e1, a2, F, hF, hA⟩ := hI
      dsimp only at e1 a2 hA
      subst e1
      have hBH2 : BH T on W b1 x M2 := fun o ho => by rw [a2.2.2.2 60 (by decide)]; exact hBH o ho
      left
      show ∃ t, Model_need_l33 (nI set) x M2 (nI (i + 1)) = some (.inl t) ∧ _
      unfold Model_need_l33 Model_need_j127_l33
      rw [if_neg (by rw [l256, mb_le (by omega) (by omega)]; omega), nI_1, mb_nm]
      have ez : (nI (i + 1) &&& (nI set ^^^ (-1)) = 0) = (sb (i + 1) set) := by
        rw [df_I (by omega) hset, l0, mb_eq (by have := df_le8 (m := i + 1) set (by omega); omega) (by omega)]
        refine propext ⟨fun e j hj => ?_, fun e => tb_ext (fun j => ?_)⟩
        · have := congrArg (fun z => Nat.testBit z j) e
          simp only [df_tb, hj] at this
          simp at this
          exact this
        · rw [df_tb]
          cases hj : (i + 1).testBit j with
          | false => simp
          | true => rw [e j hj]; simp
      by_cases c : sb (i + 1) set
      · rw [if_pos (by rw [ez]; exact c)]
        obtain ⟨M3, v, h3, a3, v9, vM, hA3⟩ := m_need1 (x1 := nI set) hw hset hsW hBH2 (show 0 < i + 1 by omega) (by omega) c hF hA
        refine ⟨(M3, nI (i + 2)), (by rw [h3, mb_bd]; rfl), rfl, a2.tr a3, fun j => if j = i + 1 then v else F j, ⟨?_, ?_, ?_, ?_⟩, hA3⟩
        · dsimp only
          rw [if_neg (by omega)]
          exact hF.1
        · intro j hj hs
          dsimp only
          by_cases e : j = i + 1
          · rw [if_pos e, e]; exact vM
          · rw [if_neg e]; exact hF.2.1 j (by omega) hs
        · intro j hj h0
          dsimp only
          rw [if_neg (by omega)]
          exact hF.2.2.1 j (by omega) h0
        · intro j
          dsimp only
          by_cases e : j = i + 1
          · rw [if_pos e]; exact v9
          · rw [if_neg e]; exact hF.2.2.2 j
      · rw [if_neg (by rw [ez]; exact c)]
        refine ⟨(M2, nI (i + 2)), rfl, rfl, a2, F, ⟨hF.1, fun j hj hs => ?_, fun j hj h0 => hF.2.2.1 j (by omega) h0, hF.2.2.2⟩, hA⟩
        rcases Nat.lt_or_ge j (i + 1) with r | r
        · exact hF.2.1 j r hs
        · have : j = i + 1 := by omega
          rw [this] at hs
          exact absurd hs c
    · intro q hI
      obtain ⟨M2, x3⟩ := q
      obtain ⟨e1, a2, F, hF, hA⟩ := hI
      dsimp only at e1 a2 hA
      subst e1
      refine ⟨M2, ?_, a2, F, hF, hA⟩
      show Model_need_l33 (nI set) x M2 (nI 256) = _
      unfold Model_need_l33
      rw [if_pos (by rw [l256, mb_le (by omega) (by omega)]; omega)]
  · intro m q hm hI
    obtain ⟨M2, x3⟩ := q
    obtain ⟨e1, a2, v2⟩ := hI
    dsimp only at e1 a2 v2
    subst e1
    left
    refine ⟨(pA M2 0 61 m (nI (if m = 0 then 0 else 9)), nI (m + 1)), ?_, rfl, a2.tr (agX.put M2 61 _ _ (by decide)), ?_⟩
    · show Model_need_l2 (nI set) x M2 (nI m) = _
      unfold Model_need_l2 Model_need_j24_l2
      rw [if_neg (by rw [l256, mb_le (by omega) (by omega)]; omega), mb_in (by omega) (by decide), mb_gd, mb_gd, mb_cl (by omega), nI_1]
      simp only [mb_nm]
      by_cases e : m = 0
      · rw [if_pos (by rw [e]; rfl), if_pos e]; rfl
      · rw [if_neg (by rw [l0, mb_eq (by omega) (by omega)]; exact e), if_neg e]; rfl
    · intro j hj
      show gA (pA M2 0 61 m _) 0 61 j = _
      rw [mb_AA]
      by_cases e : j = m
      · rw [if_pos ⟨rfl, rfl, e⟩, e]
      · rw [if_neg (fun z => e z.2.2)]; exact v2 j (by omega)
  · intro q hI
    obtain ⟨M2, x3⟩ := q
    obtain ⟨e1, a2, v2⟩ := hI
    dsimp only at e1 a2 v2
    subst e1
    refine ⟨M2, ?_, a2, v2⟩
    show Model_need_l2 (nI set) x M2 (nI 256) = _
    unfold Model_need_l2
    rw [if_pos (by rw [l256, mb_le (by omega) (by omega)]; omega)]
/-- what fill answers -/
def spFill (T : Tx) (on : Nat) (lg : List Nat) (v : Nat) : Prop := Mn (fun k => k < (lwS T on).length) (bq T on) (waS T on lg) v
theorem cv_iff {A B : Nat → Prop} {f : Nat → Nat} (h : ∀ k, A k ↔ B k) {m v : Nat} (hm : Mn A f m v) : Mn B f m v := ⟨hm.1, fun n hn => ⟨fun hc => (hm.2 n hn).1 (cv_A (fun k => (h k).2) hc), fun hv => cv_A (fun k => (h k).1) ((hm.2 n hn).2 hv)⟩⟩
theorem fi_8 {v : Nat} (hw : wfT T) (h : spFill T on lg v) : v ≤ 8 := (h.2 8 (by decide)).1 (cv_full (n := 8) (wa_lt hw on lg) (fun _ hj => wa_full T on lg hj))
theorem m_fill0 (h : mInv T on lg tn tb pl M) : ∃ M1 M' v, f_Model_wants M = some M1 ∧ f_Model_need M1 (gI M1 0 62) (-1) = some (nI v, M') ∧ mInv T on lg tn tb pl M' ∧ LO T on (waS T on lg) M' ∧ spFill T on lg v := by
  have hw := h.1
  obtain ⟨M1, h1, i1, l1⟩ := m_wants h
  obtain ⟨M2, v, h2, a2, hv⟩ := m_need (x := -1) (b1 := 0) hw (wa_lt hw on lg) (sb.rf _) (bh_0 hw l1)
  have a2' : agZ [] [61] [] M1 M2 := a2.Z (fun _ q => q)
  refine ⟨M1, M2, v, h1, by rw [l1.1]; exact h2, i1.az a2' (by decide) (by decide) (by decide), ⟨by rw [a2'.1 62 (by decide)]; exact l1.1, fun o ho => by rw [a2'.2.1 60 (by decide)]; exact l1.2 o ho⟩, cv_iff (fun k => ⟨fun q => q.2, fun q => ⟨Nat.zero_le k, q⟩⟩) hv⟩
theorem mo_fill (h : mInv T on lg tn tb pl M) : ∃ M' v, f_Model_fill M = some (nI v, M') ∧ mInv T on lg tn tb pl M' ∧ spFill T on lg v := by
  obtain ⟨M1, M2, v, h1, h2, i2, -, hv⟩ := m_fill0 h
  refine ⟨M2, v, ?_, i2, hv⟩
  unfold f_Model_fill
  rw [h1, mb_bd, h2, mb_bd2]
/-- what fills answers -/
def spFills (T : Tx) (on : Nat) (lg : List Nat) (x r : Int32) : Prop := ∃ v, spFill T on lg v ∧ match ixN x v with
  | none => r = -1
  | some i => ∃ S g, gr (bq T on) (lwS T on).length v (waS T on lg) i S ∧ lsP (stP (bq T on) (lwS T on).length (v - i - 1) S) g ∧ r = nI g
theorem spFills_un {x r s : Int32} (h1 : spFills T on lg x r) (h2 : spFills T on lg x s) : r = s := by
  obtain ⟨v, a1, a2⟩ := h1
  obtain ⟨w, b1, b2⟩ := h2
  have e := a1.un b1
  subst e
  cases hx : ixN x v with
  | none =>
    rw [hx] at a2 b2
    dsimp only at a2 b2
    rw [a2, b2]
  | some i =>
    rw [hx] at a2 b2
    obtain ⟨S, g, c1, c2, c3⟩ := a2
    obtain ⟨S', g', d1, d2, d3⟩ := b2
    have e := gr_un c1 d1
    subst e
    rw [c3, d3, c2.un d2]
theorem fi_gr {v : Nat} (hw : wfT T) (h : spFill T on lg v) : grI (bq T on) (lwS T on).length v (waS T on lg) 0 (waS T on lg) 0 := by
  have h8 := fi_8 hw h
  exact grI.i ((h.2 v (by omega)).2 (Nat.le_refl v)) (fun m hm hc => by
    have := (h.2 m (by omega)).1 hc
    omega)
/-- one search of fills -/
theorem m_search {W S n k a0 g : Nat} {x1 : Int32} (h : mInv T on lg tn tb pl M) (hl : LO T on W M) (hW : W < 256) (hS : sb S W) (hn : n ≤ 8) (hk : k < n) (ha : a0 ≤ g) (hg : g < (lwS T on).length) (hb : ∀ p, p < g → ¬ cv (fun k => p + 1 ≤ k ∧ k < (lwS T on).length) (bq T on) (n - k - 1) (df S (bq T on p))) (hc : cv (fun k => g + 1 ≤ k ∧ k < (lwS T on).length) (bq T on) (n - k - 1) (df S (bq T on g))) (h0 : ∀ o, o < 256 → gA M 0 64 o = 0) : ∃ M', wh (un3 (Model_fills_l70 x1 (nI n) (nI S) (nI k))) (M, nI a0 - 1, (0 : Int32)) = some (M', nI g) ∧ mInv T on lg tn tb pl M' ∧ LO T on W M' ∧ agZ [] [61, 64] [] M M' := by
  have hw := h.1
  have hlen := lwS_len hw on
  have n1 := hw.2.2.1
  have hS8 : S < 256 := Nat.lt_of_le_of_lt (sb_le hS) hW
  have dm : ∀ p, df S (bq T on p &&& W) = df S (bq T on p) := fun p => df_mask hS _
  have keep : ∀ {M1 : St}, agZ [] [61, 64] [] M M1 → mInv T on lg tn tb pl M1 ∧ LO T on W M1 := fun a => ⟨h.az a (by decide) (by decide) (by decide), by rw [a.1 62 (by decide)]; exact hl.1, by rw [a.2.1 60 (by decide)]; exact hl.2⟩
  have key := wh_ix (f := un3 (Model_fills_l70 x1 (nI n) (nI S) (nI k))) (s := (M, nI a0 - 1, (0 : Int32))) (g + 1 - a0) (fun i q => agZ [] [61, 64] [] M q.1 ∧ q.2.1 = nI (a0 + i) - 1 ∧ (if a0 + i = g + 1 then q.2.2 = 1 else q.2.2 = 0 ∧ ∀ o, o < 256 → gA q.1 0 64 o ≠ 0 → ∃ p, p < a0 + i ∧ bq T on p &&& W = o)) (fun r => r.2 = nI g ∧ agZ [] [61, 64] [] M r.1) ⟨agZ.rf M, rfl, by
    rw [if_neg (by omega)]
    exact ⟨rfl, fun o ho q => absurd (h0 o ho) q⟩⟩ ?_ ?_
  · obtain ⟨⟨M', v⟩, h1, h2, h3⟩ := key
    dsimp only at h2 h3
    subst h2
    exact ⟨M', h1, (keep h3).1, (keep h3).2, h3⟩
  · intro i q hi hI
    obtain ⟨M1, x4, x6⟩ := q
    obtain ⟨a1, e1, e2⟩ := hI
    dsimp only at a1 e1 e2
    rw [if_neg (by omega)] at e2
    obtain ⟨e2, v1⟩ := e2
    subst e1 e2
    obtain ⟨i1, l1⟩ := keep a1
    obtain ⟨-, -, -, hb1, -, hs1, -⟩ := id i1
    have hp : a0 + i < (lwS T on).length := by omega
    have hx := lwS_lt (get_some hp)
    have ep : nI (a0 + i) - 1 + 1 = nI (a0 + i) := by
      rw [show nI (a0 + i) - 1 = nI (a0 + i) + (-1) from (sub1 _).symm, Int32.add_assoc]
      show nI (a0 + i) + 0 = _
      exact Int32.add_zero _
    have h8 : bq T on (a0 + i) &&& W < 256 := Nat.lt_of_le_of_lt Nat.and_le_right hW
    left
    show ∃ t, Model_fills_l70 x1 (nI n) (nI S) (nI k) M1 (nI (a0 + i) - 1) 0 = some (.inl t) ∧ _
    unfold Model_fills_l70 Model_fills_j144_l70
    rw [if_pos rfl, ep, mb_nm, mb_in (by omega) (by decide), mb_gd, mb_cl (by omega), (hs1.2.2.2 _ _ (get_some hp)).1, mb_in (by omega) (by decide), mb_gd, mb_cl (by omega), (hb1.2 _ hx).2.2, l1.1, nI_and, mb_nm]
    show ∃ t, (gd (inb (nI (bq T on (a0 + i) &&& W)) 256) <| if gA M1 0 64 (nI (bq T on (a0 + i) &&& W)).toNatClampNeg = 0 then (gd (inb (nI (bq T on (a0 + i) &&& W)) 256) <| nm (pA M1 0 64 (nI (bq T on (a0 + i) &&& W)).toNatClampNeg (vp_nar .boolean (1 : Int32))) fun S_24 => bd2 (f_Model_need S_24 (nI S &&& (nI (bq T on (a0 + i) &&& W) ^^^ (-1 : Int32))) (nI (a0 + i))) fun v_26 S_27 => if ((nI n - nI k) - (1 : Int32)) < v_26 then some (Sum.inl (S_27, nI (a0 + i), 0)) else some (Sum.inl (S_27, nI (a0 + i), 1))) else some (Sum.inl (M1, nI (a0 + i), 0))) = some (.inl t) ∧ _
    rw [mb_in (by omega) (by decide), mb_gd, mb_gd, mb_cl (by omega), df_I hS8 h8, dm]
    have enx : nI (a0 + (i + 1)) - 1 = nI (a0 + i) := nI_pred (a0 + i)
    by_cases c1 : gA M1 0 64 (bq T on (a0 + i) &&& W) = 0
    · rw [if_pos c1, mb_nm]
      have a2 : agZ [] [61, 64] [] M1 (pA M1 0 64 (bq T on (a0 + i) &&& W) (vp_nar .boolean 1)) := agZ.pA M1 64 _ _ (by decide)
      obtain ⟨i2, l2⟩ := keep (a1.tr a2)
      obtain ⟨M3, v, h3, a3, hv⟩ := m_need hw (df_le8 (bq T on (a0 + i)) hS8) ((sb_df S (bq T on (a0 + i))).tr hS) (bh_1 hw hp l2)
      rw [h3, mb_bd2]
      have a3' : agZ [] [61, 64] [] M M3 := a1.tr (a2.tr (a3.Z (by decide)))
      have en : nI n - nI k - 1 = nI (n - k - 1) := by rw [pk_sub (by omega), show n - k = (n - k - 1) + 1 by omega, nI_pred]; rfl
      have hv9 := hv.1
      have hvc := hv.2 (n - k - 1) (by omega)
      rw [en]
      by_cases c2 : cv (fun q => a0 + i + 1 ≤ q ∧ q < (lwS T on).length) (bq T on) (n - k - 1) (df S (bq T on (a0 + i)))
      · have eg : a0 + i = g := by
          rcases Nat.lt_or_ge (a0 + i) g with r | r
          · exact absurd c2 (hb _ r)
          · omega
        have := hvc.1 c2
        rw [if_neg (by rw [mb_lt (by omega) (by omega)]; omega)]
        refine ⟨_, rfl, a3', enx.symm, ?_⟩
        rw [if_pos (by omega)]
      · have eg : a0 + i ≠ g := fun e => c2 (by rw [e]; exact hc)
        have : ¬ v ≤ n - k - 1 := fun q => c2 (hvc.2 q)
        rw [if_pos (by rw [mb_lt (by omega) (by omega)]; omega)]
        refine ⟨_, rfl, a3', enx.symm, ?_⟩
        rw [if_neg (by omega)]
        refine ⟨rfl, fun o ho hne => ?_⟩
        have hne' : gA M3 0 64 o ≠ 0 := hne
        rw [a3.2.2.2 64 (by decide), mb_AA] at hne'
        by_cases e : o = bq T on (a0 + i) &&& W
        · exact ⟨a0 + i, by omega, e.symm⟩
        · rw [if_neg (fun z => e z.2.2)] at hne'
          obtain ⟨p, p1, p2⟩ := v1 o ho hne'
          exact ⟨p, by omega, p2⟩
    · rw [if_neg c1]
      obtain ⟨p, p1, p2⟩ := v1 _ h8 c1
      have ed : df S (bq T on p) = df S (bq T on (a0 + i)) := by rw [← dm p, p2, dm]
      have eg : a0 + i ≠ g := by
        intro e
        refine hb p (by omega) ?_
        rw [ed, e]
        exact cv_A (fun q z => ⟨by omega, z.2⟩) hc
      refine ⟨_, rfl, a1, enx.symm, ?_⟩
      rw [if_neg (by omega)]
      refine ⟨rfl, fun o ho hne => ?_⟩
      obtain ⟨p, p1, p2⟩ := v1 o ho hne
      exact ⟨p, by omega, p2⟩
  · intro q hI
    obtain ⟨M1, x4, x6⟩ := q
    obtain ⟨a1, e1, e2⟩ := hI
    dsimp only at a1 e1 e2
    rw [if_pos (by omega)] at e2
    subst e2
    have e3 : x4 = nI g := by rw [e1, show a0 + (g + 1 - a0) = g + 1 by omega, nI_pred]
    subst e3
    refine ⟨(M1, nI g), ?_, rfl, a1⟩
    show Model_fills_l70 x1 (nI n) (nI S) (nI k) M1 (nI g) 1 = _
    unfold Model_fills_l70
    rw [if_neg (by decide)]
theorem mo_fills (h : mInv T on lg tn tb pl M) (x : Int32) : ∃ M' r, f_Model_fills M x = some (r, M') ∧ mInv T on lg tn tb pl M' ∧ spFills T on lg x r := by
  have hw := h.1
  have hlen := lwS_len hw on
  have n1 := hw.2.2.1
  obtain ⟨M1, M2, v, h1, h2, i2, l2, hv⟩ := m_fill0 h
  have h8 := fi_8 hw hv
  have hW := wa_lt hw on lg
  unfold f_Model_fills Model_fills_j23
  rw [h1, mb_bd, h2, mb_bd2]
  cases hx : ixN x v with
  | none =>
    refine ⟨M2, -1, ?_, i2, v, hv, by rw [hx]⟩
    rcases ixN_n hx with q | ⟨q, r⟩
    · rw [if_pos q]
    · rw [if_neg q, if_neg (fun z => absurd (Int32.lt_of_lt_of_le z r) Int32.lt_irrefl)]
  | some i =>
    obtain ⟨k1, rfl, q, r⟩ := ixN_s (by omega) hx
    rw [if_neg q, if_pos (by rw [mb_lt (by omega) (by omega)]; exact k1), l2.1, mb_nm]
    have key := wh_ix (f := un4 (Model_fills_l36 (nI i) (nI v))) (s := (M2, nI (waS T on lg), (-1 : Int32), (0 : Int32))) (i + 1) (fun k q => q.2.2.2 = nI k ∧ mInv T on lg tn tb pl q.1 ∧ LO T on (waS T on lg) q.1 ∧ ∃ S a0, q.2.1 = nI S ∧ q.2.2.1 = nI a0 - 1 ∧ grI (bq T on) (lwS T on).length v (waS T on lg) k S a0 ∧ (k = i + 1 → ∃ S0 g, gr (bq T on) (lwS T on).length v (waS T on lg) i S0 ∧ lsP (stP (bq T on) (lwS T on).length (v - i - 1) S0) g ∧ gA q.1 0 63 i = nI g)) (fun M' => mInv T on lg tn tb pl M' ∧ ∃ S0 g, gr (bq T on) (lwS T on).length v (waS T on lg) i S0 ∧ lsP (stP (bq T on) (lwS T on).length (v - i - 1) S0) g ∧ gA M' 0 63 i = nI g) ⟨rfl, i2, l2, waS T on lg, 0, rfl, rfl, fi_gr hw hv, fun e => absurd e (by omega)⟩ ?_ ?_
    · obtain ⟨M', h3, i3, S0, g, g1, g2, g3⟩ := key
      refine ⟨M', nI g, ?_, i3, v, hv, by rw [hx]; exact ⟨S0, g, g1, g2, rfl⟩⟩
      rw [h3, mb_bd, mb_in (by omega) (by decide), mb_gd, mb_cl (by omega), g3]
    · intro k q hk hI
      obtain ⟨M3, x3, x4, x5⟩ := q
      obtain ⟨e1, i3, l3, S, a0, e2, e3, hgr, -⟩ := hI
      dsimp only at e1 i3 l3 e2 e3
      subst e1 e2 e3
      obtain ⟨g, s1, s2, s3, s4, s5, s6⟩ := hgr.s (show k < v by omega)
      have hgr1 := hgr.1
      have hS := hgr.2.1
      have hS8 : S < 256 := Nat.lt_of_le_of_lt (sb_le hS) hW
      left
      show ∃ t, Model_fills_l36 (nI i) (nI v) M3 (nI S) (nI a0 - 1) (nI k) = some (.inl t) ∧ _
      unfold Model_fills_l36
      rw [if_neg (by rw [mb_lt (by omega) (by omega)]; omega)]
      have kz := wh_ix (f := un2 (Model_fills_l45 (nI i) (nI v) (nI S) (nI a0 - 1) (nI k))) (s := (M3, (0 : Int32))) 256 (fun o q => q.2 = nI o ∧ agZ [] [64] [] M3 q.1 ∧ ∀ j, j < o → gA q.1 0 64 j = 0) (fun M' => agZ [] [64] [] M3 M' ∧ ∀ j, j < 256 → gA M' 0 64 j = 0) ⟨rfl, agZ.rf M3, fun j hj => absurd hj (Nat.not_lt_zero j)⟩ ?_ ?_
      · obtain ⟨M4, h4, a4, v4⟩ := kz
        have i4 := i3.az a4 (by decide) (by decide) (by decide)
        have l4 : LO T on (waS T on lg) M4 := ⟨by rw [a4.1 62 (by decide)]; exact l3.1, by rw [a4.2.1 60 (by decide)]; exact l3.2⟩
        obtain ⟨M5, h5, i5, l5, a5⟩ := m_search (x1 := nI i) i4 l4 hW hS h8 (show k < v by omega) s2 s3 s4 s5 v4
        obtain ⟨-, -, -, hb5, -, hs5, -⟩ := id i5
        have hx5 := lwS_lt (get_some s3)
        have hm8 : bq T on g &&& waS T on lg < 256 := Nat.lt_of_le_of_lt Nat.and_le_right hW
        rw [h4, mb_bd, h5, mb_bd2, mb_in (by omega) (by decide), mb_gd, mb_cl (show g < 2147483648 by omega), (hs5.2.2.2 _ _ (get_some s3)).1, mb_in (by omega) (by decide), mb_gd, mb_cl (show (lwS T on).getD g 0 < 2147483648 by omega), (hb5.2 _ hx5).2.2, l5.1, nI_and]
        show ∃ t, (nm (nI S &&& (nI (bq T on g &&& waS T on lg) ^^^ (-1 : Int32))) fun x3_34 => gd (inb (nI k) 8) <| nm (pA M5 0 63 (nI k).toNatClampNeg (nI g)) fun S_36 => nm (nI k + 1) fun x5_37 => some (Sum.inl (S_36, x3_34, nI g, x5_37))) = some (.inl t) ∧ _
        rw [df_I hS8 hm8, df_mask hS, mb_nm, mb_in (by omega) (by decide), mb_gd, mb_cl (by omega), mb_nm, nI_1, mb_nm]
        have a6 : agZ [] [63] [] M5 (pA M5 0 63 k (nI g)) := agZ.pA M5 63 _ _ (by decide)
        refine ⟨_, rfl, rfl, i5.az a6 (by decide) (by decide) (by decide), ⟨by rw [a6.1 62 (by decide)]; exact l5.1, by rw [a6.2.1 60 (by decide)]; exact l5.2⟩, df S (bq T on g), g + 1, rfl, (nI_pred g).symm, s6, fun e => ?_⟩
        have ek : k = i := by omega
        subst ek
        exact ⟨S, g, hgr1, s1, by show gA (pA M5 0 63 k (nI g)) 0 63 k = _; rw [mb_AA, if_pos ⟨rfl, rfl, rfl⟩]⟩
      · intro o q ho hI
        obtain ⟨M4, y⟩ := q
        obtain ⟨e1, a4, v4⟩ := hI
        dsimp only at e1 a4 v4
        subst e1
        left
        refine ⟨(pA M4 0 64 o 0, nI (o + 1)), ?_, rfl, a4.tr (agZ.pA M4 64 _ _ (by decide)), ?_⟩
        · show Model_fills_l45 (nI i) (nI v) (nI S) (nI a0 - 1) (nI k) M4 (nI o) = _
          unfold Model_fills_l45
          rw [if_neg (by rw [l256, mb_le (by omega) (by omega)]; omega), mb_in (by omega) (by decide), mb_gd, mb_cl (by omega), mb_nm, nI_1, mb_nm]
          rfl
        · intro j hj
          show gA (pA M4 0 64 o 0) 0 64 j = 0
          rw [mb_AA]
          by_cases e : j = o
          · rw [if_pos ⟨rfl, rfl, e⟩]
          · rw [if_neg (fun z => e z.2.2)]; exact v4 j (by omega)
      · intro q hI
        obtain ⟨M4, y⟩ := q
        obtain ⟨e1, a4, v4⟩ := hI
        dsimp only at e1 a4 v4
        subst e1
        refine ⟨M4, ?_, a4, v4⟩
        show Model_fills_l45 (nI i) (nI v) (nI S) (nI a0 - 1) (nI k) M4 (nI 256) = _
        unfold Model_fills_l45
        rw [if_pos (by rw [l256, mb_le (by omega) (by omega)]; omega)]
    · intro q hI
      obtain ⟨M3, x3, x4, x5⟩ := q
      obtain ⟨e1, i3, l3, S, a0, e2, e3, hgr, hz⟩ := hI
      dsimp only at e1 i3 l3 e2 e3 hz
      subst e1 e2 e3
      refine ⟨M3, ?_, i3, hz rfl⟩
      show Model_fills_l36 (nI i) (nI v) M3 (nI S) (nI a0 - 1) (nI (i + 1)) = _
      unfold Model_fills_l36
      rw [if_pos (by rw [mb_lt (by omega) (by omega)]; omega)]
end MO9
