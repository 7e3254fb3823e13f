/-! the class: least -/
variable {T : Tx} {on tn : Nat} {lg : List Nat} {tb : Nat → Int32} {pl : Int32} {S S' : St}
theorem c_heightOf (hw : wfT T) (hB : CB T S) {i : Nat} (hi : i < 32768) : f_Book_heightOf S (nI i) = some (nI (hgTo T i (tNf T))) := by
  have n6 := hw.1
  unfold f_Book_heightOf
  have e0 : (if (6 : Int32) < nI (tNf T) then (6 : Int32) else nI (tNf T)) = nI (tNf T) := by
    rw [l6, if_neg (by rw [mb_lt (by omega) (by omega)]; omega)]
  rw [mb_nm, hB.1, e0]
  have key := wh_ix (f := un3 (Book_heightOf_l17 S)) (s := ((0 : Int32), nI i, nI (tNf T) - 1)) (tNf T) (fun j q => q.2.2 = nI (tNf T - j) - 1 ∧ q.2.1 = nI (i / pr (tMa T) (tNf T - j) j) ∧ ∃ a, q.1 = nI a ∧ a + hgTo T i (tNf T - j) = hgTo T i (tNf T)) (fun r => r = nI (hgTo T i (tNf T))) ⟨rfl, by show nI i = nI (i / 1); rw [Nat.div_one], 0, rfl, by rw [Nat.sub_zero, Nat.zero_add]⟩ ?_ ?_
  · obtain ⟨r, h1, h2⟩ := key
    rw [h1, h2, mb_bd]
  · intro j q hj hI
    obtain ⟨x2, x3, x4⟩ := q
    obtain ⟨e1, e2, a, e3, ha⟩ := hI
    dsimp only at e1 e2 e3
    obtain ⟨f, hf⟩ : ∃ f, f = tNf T - j - 1 := ⟨_, rfl⟩
    have hfn : f < tNf T := by omega
    have ef : tNf T - j = f + 1 := by omega
    rw [ef] at e1 e2 ha
    rw [← nI_1, Int32.add_sub_cancel] at e1
    have hsd : pr (tMa T) (f + 1) j = tSd T f := by
      unfold tSd
      rw [show tNf T - (f + 1) = j by omega]
    rw [hsd] at e2
    subst e1 e2 e3
    obtain ⟨b1, b2, b3⟩ := hB.2.2.1 f hfn
    have p4 := hw.2.1 f hfn
    have hq : i / tSd T f ≤ i := Nat.div_le_self _ _
    have hs : nI (tFr T f + tMa T f - 1) - nI (tFr T f) + 1 = nI (tMa T f) := by
      rw [pk_sub (by omega), nI_1]
      congr 1
      omega
    left
    refine ⟨(nI (a + i / tSd T f % tMa T f), nI (i / tSd T f / tMa T f), nI f - 1), ?_, ?_, ?_, _, rfl, ?_⟩
    · show Book_heightOf_l17 S (nI a) (nI (i / tSd T f)) (nI f) = _
      unfold Book_heightOf_l17 Book_heightOf_j58_l17
      rw [if_neg (nI_pos (by omega)), mb_in (by omega) (by decide), mb_gd, mb_gd, mb_nm, mb_cl (by omega), b1, b2, hs, if_neg (by rw [l0, mb_le (by omega) (by omega)]; omega), nz_nI (by omega) (by omega), mb_gd, mb_nm, mb_gd, mb_nm, mb_nm, pk_rem (by omega) (by omega) (by omega), pk_div (by omega) (by omega) (by omega), nI_add, sub1]
    · show nI f - 1 = nI (tNf T - (j + 1)) - 1
      rw [show tNf T - (j + 1) = f by omega]
    · show nI (i / tSd T f / tMa T f) = nI (i / pr (tMa T) (tNf T - (j + 1)) (j + 1))
      rw [show tNf T - (j + 1) = f by omega, Nat.div_div_eq_div_mul]
      congr 2
      show _ = tMa T f * pr (tMa T) (f + 1) j
      rw [hsd, Nat.mul_comm]
    · rw [show tNf T - (j + 1) = f by omega]
      have : hgTo T i (f + 1) = hgTo T i f + i / tSd T f % tMa T f := rfl
      omega
  · intro q hI
    obtain ⟨x2, x3, x4⟩ := q
    obtain ⟨e1, e2, a, e3, ha⟩ := hI
    dsimp only at e1 e2 e3
    rw [Nat.sub_self] at e1 ha
    subst e1 e3
    have : hgTo T i 0 = 0 := rfl
    refine ⟨nI a, ?_, ?_⟩
    · show Book_heightOf_l17 S (nI a) x3 (nI 0 - 1) = _
      unfold Book_heightOf_l17
      rw [show nI 0 - 1 = -1 from rfl, if_pos (by decide)]
    · congr 1
/-- lowest so far -/
def loH (T : Tx) (on b k : Nat) : Int32 := match (leTo T on b k).1 with
  | none => 1000000
  | some _ => nI (leTo T on b k).2
theorem c_note (hw : wfT T) {k h : Nat} {m : Nat} (hm : m < 256) (hh : h ≤ 60000) (hk : k < 32768) (em : m = bN T 2 ((lwS T on).getD k 0)) (eh : h = hgTo T ((lwS T on).getD k 0) (tNf T)) (v : ∀ b, b < 8 → gA S 8 3 b = loH T on b k ∧ gA S 8 4 b = oI (leTo T on b k).1) : ∃ S', f_Bins_noteHeight S (nI k) (nI m) (nI h) = some S' ∧ agC [] [(8, 3), (8, 4)] [] S S' ∧ ∀ b, b < 8 → gA S' 8 3 b = loH T on b (k + 1) ∧ gA S' 8 4 b = oI (leTo T on b (k + 1)).1 := by
  unfold f_Bins_noteHeight
  have key := wh_ix (f := un2 (Bins_noteHeight_l3 (nI k) (nI m) (nI h))) (s := (S, (0 : Int32))) 8 (fun b q => q.2 = nI b ∧ agC [] [(8, 3), (8, 4)] [] S q.1 ∧ (∀ c, c < b → gA q.1 8 3 c = loH T on c (k + 1) ∧ gA q.1 8 4 c = oI (leTo T on c (k + 1)).1) ∧ ∀ c, b ≤ c → c < 8 → gA q.1 8 3 c = loH T on c k ∧ gA q.1 8 4 c = oI (leTo T on c k).1) (fun S' => agC [] [(8, 3), (8, 4)] [] S S' ∧ ∀ b, b < 8 → gA S' 8 3 b = loH T on b (k + 1) ∧ gA S' 8 4 b = oI (leTo T on b (k + 1)).1) ⟨rfl, agC.rf S, fun c hc => absurd hc (Nat.not_lt_zero c), fun c _ hc => v c hc⟩ ?_ ?_
  · obtain ⟨S', h1, h2⟩ := key
    rw [h1, mb_bd]
    exact ⟨S', rfl, h2⟩
  · intro b q hb hI
    obtain ⟨S1, x⟩ := q
    obtain ⟨e1, a1, v1, v2⟩ := hI
    dsimp only at e1 a1 v1 v2
    subst e1
    obtain ⟨w2, w3⟩ := v2 b (Nat.le_refl b) hb
    have hle : leTo T on b (k + 1) = cond (m.testBit b) (match (leTo T on b k).1 with | none => (some k, h) | some c => if h < (leTo T on b k).2 then (some k, h) else (some c, (leTo T on b k).2)) (leTo T on b k) := by
      rw [em, eh]
      rfl
    have hl2 := (le_lt hw on b k).2
    -- the step, as a choice
    have head : Bins_noteHeight_l3 (nI k) (nI m) (nI h) S1 (nI b) = (if m.testBit b = false then some (.inl (S1, nI (b + 1))) else if loH T on b k ≤ nI h then some (.inl (S1, nI (b + 1))) else some (.inl (pA (pA S1 8 3 b (nI h)) 8 4 b (nI k), nI (b + 1)))) := by
      unfold Bins_noteHeight_l3 Bins_noteHeight_j46_l3
      rw [l8, if_neg (by rw [mb_le (by omega) (by omega)]; omega), mb_in hb (by decide), mb_gd, mb_gd, mb_nm, mb_nm, mb_gd, mb_nm, mb_nm, mb_cl (by omega), w2, nI_1]
      by_cases c : m.testBit b = false
      · rw [if_pos (by rw [bit_I hm hb]; exact c), if_pos c]
      · rw [if_neg (by rw [bit_I hm hb]; exact c), if_neg c]
    left
    show ∃ t, Bins_noteHeight_l3 (nI k) (nI m) (nI h) S1 (nI b) = some (.inl t) ∧ _
    rw [head]
    have same : leTo T on b (k + 1) = leTo T on b k → ∃ t, (some (.inl (S1, nI (b + 1))) : Option ((St × Int32) ⊕ St)) = some (.inl t) ∧ (t.2 = nI (b + 1) ∧ agC [] [(8, 3), (8, 4)] [] S t.1 ∧ (∀ c, c < b + 1 → gA t.1 8 3 c = loH T on c (k + 1) ∧ gA t.1 8 4 c = oI (leTo T on c (k + 1)).1) ∧ ∀ c, b + 1 ≤ c → c < 8 → gA t.1 8 3 c = loH T on c k ∧ gA t.1 8 4 c = oI (leTo T on c k).1) := by
      intro e
      refine ⟨_, rfl, rfl, a1, fun c hc => ?_, fun c hc hc8 => v2 c (by omega) hc8⟩
      by_cases z : c = b
      · rw [z]
        unfold loH
        rw [e]
        exact ⟨w2, w3⟩
      · exact v1 c (by omega)
    have other : leTo T on b (k + 1) = (some k, h) → ∃ t, (some (.inl (pA (pA S1 8 3 b (nI h)) 8 4 b (nI k), nI (b + 1))) : Option ((St × Int32) ⊕ St)) = some (.inl t) ∧ (t.2 = nI (b + 1) ∧ agC [] [(8, 3), (8, 4)] [] S t.1 ∧ (∀ c, c < b + 1 → gA t.1 8 3 c = loH T on c (k + 1) ∧ gA t.1 8 4 c = oI (leTo T on c (k + 1)).1) ∧ ∀ c, b + 1 ≤ c → c < 8 → gA t.1 8 3 c = loH T on c k ∧ gA t.1 8 4 c = oI (leTo T on c k).1) := by
      intro e
      refine ⟨_, rfl, rfl, a1.tr ((agC.pA S1 8 3 _ _ (by decide)).tr (agC.pA _ 8 4 _ _ (by decide))), fun c hc => ?_, fun c hc hc8 => ?_⟩
      · show gA (pA (pA S1 8 3 b (nI h)) 8 4 b (nI k)) 8 3 c = _ ∧ gA (pA (pA S1 8 3 b (nI h)) 8 4 b (nI k)) 8 4 c = _
        rw [mb_AA, if_neg (fun z => by omega), mb_AA, mb_AA]
        by_cases z : c = b
        · rw [if_pos ⟨rfl, rfl, z⟩, if_pos ⟨rfl, rfl, z⟩, z]
          unfold loH
          rw [e]
          exact ⟨rfl, rfl⟩
        · rw [if_neg (fun q => z q.2.2), if_neg (fun q => z q.2.2), mb_AA, if_neg (fun z => by omega)]
          exact v1 c (by omega)
      · show gA (pA (pA S1 8 3 b (nI h)) 8 4 b (nI k)) 8 3 c = _ ∧ gA (pA (pA S1 8 3 b (nI h)) 8 4 b (nI k)) 8 4 c = _
        rw [mb_AA, if_neg (fun z => by omega), mb_AA, if_neg (fun z => by omega), mb_AA, if_neg (fun z => by omega), mb_AA, if_neg (fun z => by omega)]
        exact v2 c (by omega) hc8
    cases hb2 : m.testBit b with
    | false =>
      rw [hb2] at hle
      rw [if_pos rfl]
      exact same hle
    | true =>
      rw [hb2] at hle
      have hle : leTo T on b (k + 1) = (match (leTo T on b k).1 with | none => (some k, h) | some c => if h < (leTo T on b k).2 then (some k, h) else (some c, (leTo T on b k).2)) := hle
      rw [if_neg (by decide)]
      cases hx : (leTo T on b k).1 with
      | none =>
        rw [hx] at hle
        have : loH T on b k = nI 1000000 := by unfold loH; rw [hx]; rfl
        rw [this, if_neg (by rw [mb_le (by omega) (by omega)]; omega)]
        exact other hle
      | some c =>
        rw [hx] at hle
        dsimp only at hle
        have : loH T on b k = nI (leTo T on b k).2 := by unfold loH; rw [hx]
        rw [this]
        by_cases d : h < (leTo T on b k).2
        · rw [if_pos d] at hle
          rw [if_neg (by rw [mb_le (by omega) (by omega)]; omega)]
          exact other hle
        · rw [if_neg d] at hle
          rw [if_pos (by rw [mb_le (by omega) (by omega)]; omega)]
          refine same (by rw [hle, ← hx])
  · intro q hI
    obtain ⟨S1, x⟩ := q
    obtain ⟨e1, a1, v1, v2⟩ := hI
    dsimp only at e1 a1 v1 v2
    subst e1
    refine ⟨S1, ?_, a1, v1⟩
    show Bins_noteHeight_l3 (nI k) (nI m) (nI h) S1 (nI 8) = _
    unfold Bins_noteHeight_l3
    rw [l8, if_pos (by rw [mb_le (by omega) (by omega)]; omega)]
theorem cInv.b9 (h : cInv T on lg tn tb pl S) (h8 : gI S 8 9 = 0) (a : agC [] [(8, 3), (8, 4)] [] S S') : cInv T on lg tn tb pl S' := by
  obtain ⟨hw, hT, hK, hN, hM, hF, hS, hU, hL, hX, hY, hZ, hC⟩ := h
  refine ⟨hw, hT.ag a (by decide), hK.ag a (by decide) (by decide), hN.ag a, hM.ag a (by decide) (by decide), hF.ag a (by decide) (by decide), hS.ag a (by decide) (by decide), hU.ag a (by decide) (by decide), hL.ag a (by decide) (by decide), hX.ag a (by decide) (by decide), ?_, hZ.ag a (by decide) (by decide), hC.ag a (by decide) (by decide)⟩
  intro z
  rw [a.1 8 9 (by decide)] at z
  exact absurd h8 z
theorem c_lowest (h : cInv T on lg tn tb pl S) (hf : ¬ gI S 4 16 = 0) (h14 : ¬ gI S 4 14 = 0) : ∃ S', f_Bins_refreshLowest S = some S' ∧ cInv T on lg tn tb pl S' ∧ gN S' = gN S ∧ ¬ gI S' 8 9 = 0 := by
  have hw := h.1
  have n8 := hw.2.2.2.1 2 (by decide)
  have n1 := hw.2.2.1
  have hlen := lwS_len hw on
  unfold f_Bins_refreshLowest
  by_cases c : gI S 8 9 = 0
  · rw [if_pos c]
    obtain ⟨S1, h1, a1, v1⟩ := c_fill (o := 8) (k := 3) (n := 8) (S := S) 1000000 (fun _ _ => rfl) (by decide)
    obtain ⟨S2, h2, a2, v2⟩ := c_fill (o := 8) (k := 4) (n := 8) (S := S1) (-1) (fun _ _ => rfl) (by decide)
    rw [h1, mb_bd, h2, mb_bd]
    have a02 : agC [] [(8, 3), (8, 4)] [] S S2 := (a1.wk (by decide) (by decide) (by decide)).tr (a2.wk (by decide) (by decide) (by decide))
    have key := wh_ix (f := un2 Bins_refreshLowest_l27) (s := (S2, (0 : Int32))) (lwS T on).length (fun k q => q.2 = nI k ∧ agC [] [(8, 3), (8, 4)] [] S q.1 ∧ ∀ b, b < 8 → gA q.1 8 3 b = loH T on b k ∧ gA q.1 8 4 b = oI (leTo T on b k).1) (fun S' => agC [] [(8, 3), (8, 4)] [] S S' ∧ ∀ b, b < 8 → gA S' 8 4 b = oI (leTo T on b (lwS T on).length).1) ⟨rfl, a02, fun b hb => ⟨?_, v2 b hb⟩⟩ ?_ ?_
    · obtain ⟨S3, h3, a3, v3⟩ := key
      rw [h3, mb_bd, mb_nm]
      have hi3 := h.b9 c a3
      have a5 : agC [(8, 9)] [] [] S3 (pI S3 8 9 1) := agC.pI S3 8 9 _ (by decide)
      obtain ⟨-, hT, hK, hN, hM, hF, hS, hU, hL, hX, hY, hZ, hC⟩ := hi3
      refine ⟨_, rfl, ⟨hw, hT.ag a5 (by decide), hK.ag a5 (by decide) (by decide), hN.ag a5, hM.ag a5 (by decide) (by decide), hF.ag a5 (by decide) (by decide), hS.ag a5 (by decide) (by decide), hU.ag a5 (by decide) (by decide), hL.ag a5 (by decide) (by decide), hX.ag a5 (by decide) (by decide), fun _ b hb => ?_, hZ.ag a5 (by decide) (by decide), hC.ag a5 (by decide) (by decide)⟩, by rw [a5.2.2.2, a3.2.2.2], ?_⟩
      · rw [a5.2.1 8 4 (by decide)]; exact v3 b (by omega)
      · rw [mb_II, if_pos ⟨rfl, rfl⟩]; decide
    · show gA S2 8 3 b = _
      rw [a2.2.1 8 3 (by decide), v1 b hb]
      rfl
    · intro k q hk hI
      obtain ⟨S3, x⟩ := q
      obtain ⟨e1, a3, v3⟩ := hI
      dsimp only at e1 a3 v3
      subst e1
      have hi3 := h.b9 c a3
      have hg := get_some hk
      have hlt := lwS_lt hg
      have hin := c_inputOf hi3 (by rw [a3.1 4 16 (by decide)]; exact hf) hg
      have hbi := c_binsOf hi3 (by rw [a3.1 4 14 (by decide)]; exact h14) hlt
      have e9 : gI S3 4 9 = nI (lwS T on).length := by rw [a3.1 4 9 (by decide)]; exact (h.2.2.2.2.2.1.2.2 hf).2.1
      have hb2 := bN_lt hw (show 2 < 5 by decide) ((lwS T on).getD k 0)
      have hhg := hg_le hw ((lwS T on).getD k 0) (tNf T) (Nat.le_refl _)
      have n6 := hw.1
      obtain ⟨S4, h4, a4, v4⟩ := c_note hw hb2 (show hgTo T ((lwS T on).getD k 0) (tNf T) ≤ 60000 by omega) (by omega) rfl rfl v3
      left
      by_cases z : bN T 2 ((lwS T on).getD k 0) = 0
      · refine ⟨(S3, nI (k + 1)), ?_, rfl, a3, fun b hb => ?_⟩
        · show Bins_refreshLowest_l27 S3 (nI k) = _
          unfold Bins_refreshLowest_l27 Bins_refreshLowest_j68_l27
          rw [e9, if_neg (by rw [mb_le (by omega) (by omega)]; omega), hin, mb_bd, hbi, mb_bd, if_pos (by rw [z]; rfl), mb_nm, nI_1]
        · have : leTo T on b (k + 1) = leTo T on b k := by
            show cond ((bN T 2 ((lwS T on).getD k 0)).testBit b) _ _ = _
            rw [z, Nat.zero_testBit]
            rfl
          unfold loH
          rw [this]
          exact v3 b hb
      · refine ⟨(S4, nI (k + 1)), ?_, rfl, a3.tr a4, v4⟩
        show Bins_refreshLowest_l27 S3 (nI k) = _
        unfold Bins_refreshLowest_l27 Bins_refreshLowest_j68_l27
        rw [e9, if_neg (by rw [mb_le (by omega) (by omega)]; omega), hin, mb_bd, hbi, mb_bd, if_neg (by rw [l0, mb_eq (by omega) (by omega)]; exact z), c_heightOf hw hi3.2.2.1.1 (by omega), mb_bd, h4, mb_bd, mb_nm, nI_1]
    · intro q hI
      obtain ⟨S3, x⟩ := q
      obtain ⟨e1, a3, v3⟩ := hI
      dsimp only at e1 a3 v3
      subst e1
      have e9 : gI S3 4 9 = nI (lwS T on).length := by rw [a3.1 4 9 (by decide)]; exact (h.2.2.2.2.2.1.2.2 hf).2.1
      refine ⟨S3, ?_, a3, fun b hb => (v3 b hb).2⟩
      show Bins_refreshLowest_l27 S3 (nI (lwS T on).length) = _
      unfold Bins_refreshLowest_l27
      rw [e9, if_pos (by rw [mb_le (by omega) (by omega)]; omega)]
  · rw [if_neg c]
    exact ⟨S, rfl, h, rfl, c⟩
theorem cc_least (h : cInv T on lg tn tb pl S) (x : Int32) : ∃ S', f_Lots_least S x = some (spLeast T on x, S') ∧ cInv T on lg tn tb pl S' ∧ Ph S + kBin S x ≤ Ph S' := by
  have hw := h.1
  have n8 := hw.2.2.2.1 2 (by decide)
  unfold f_Lots_least kBin
  rw [show f_Book_has S 2 x = _ from c_has h.2.2.1.1 (s := 2) (by decide) x, mb_bd]
  unfold ixB spLeast
  cases hx : ixN x (tNt T 2) with
  | none =>
    dsimp only
    rw [if_pos (show (0 : Int32) = 0 from rfl), if_pos (show (0 : Int32) = 0 from rfl)]
    exact ⟨S, rfl, h, Nat.le_refl _⟩
  | some b =>
    obtain ⟨hb, rfl, -, -⟩ := ixN_s (by omega) hx
    dsimp only
    rw [if_neg (show ¬ (1 : Int32) = 0 by decide), if_neg (show ¬ (1 : Int32) = 0 by decide)]
    obtain ⟨S1, h1, hi, hf, h14, hp⟩ := c_refreshBins h
    obtain ⟨S2, h2, hi2, eN, h8⟩ := c_lowest hi hf h14
    rw [h1, mb_bd, h2, mb_bd]
    refine ⟨S2, ?_, hi2, ?_⟩
    · unfold f_Bins_lowest Bins_lowest_j23
      rw [if_neg (nI_pos (by omega)), if_neg (by rw [mb_le (by omega) (by omega)]; omega), mb_in (by omega) (by decide), mb_gd, mb_bd, mb_cl (by omega), hi2.2.2.2.2.2.2.2.2.2.2.1 h8 b hb]
    · unfold Ph at hp ⊢
      rw [eN]
      exact hp
