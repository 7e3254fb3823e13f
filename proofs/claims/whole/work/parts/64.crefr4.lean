/-! the class: refresh, and the calls that need no more -/
def Ph (S : St) : Nat := 3 * gN S 4 5 + 2 * gN S 4 6
theorem Ph_le {S : St} (h : CN S) : Ph S ≤ 1000000 := by
  obtain ⟨h1, h2, h3, h4⟩ := h
  unfold lnS at h1 h3
  unfold Ph
  omega
theorem on_lt {T : Tx} (hw : wfT T) {on : Nat} (h : on < 2 ^ tNt T 0) : on < 256 := Nat.lt_of_lt_of_le h (Nat.pow_le_pow_right (n := 2) (i := tNt T 0) (j := 8) (by decide) (hw.2.2.2.1 0 (by decide)))
variable {T : Tx} {on tn : Nat} {lg : List Nat} {tb : Nat → Int32} {pl : Int32} {S S' : St}
theorem c_refresh (h : cInv T on lg tn tb pl S) : ∃ S', f_Chart_refresh S = some S' ∧ cInv T on lg tn tb pl S' ∧ ¬ gI S' 4 16 = 0 ∧ Ph S + kMark S ≤ Ph S' := by
  obtain ⟨hw, hT, hK, hN, hM, hF, hS, hU, hL, hX, hY, hZ, hC⟩ := h
  unfold f_Chart_refresh
  by_cases c : gI S 4 16 = 0
  · rw [if_pos c]
    have ho2 := on_lt hw hF.2.1
    obtain ⟨S1, h1, ⟨a1, hN1, e6, h13, hM1⟩, hp⟩ := c_markLaws hw hK hN hM
    rw [h1, mb_bd]
    have hK1 : CK T S1 := hK.agD a1 (by decide) (by decide)
    obtain ⟨S2, h2, a2, z2, o2, s2⟩ := c_gather hw hK1.1 hN1 h13 hM1 (by rw [a1.1 4 12 (by decide)]; exact hF.1) ho2
    rw [h2, mb_bd]
    have hK2 : CK T S2 := hK1.ag a2 (by decide) (by decide)
    obtain ⟨S3, h3, a3, k3⟩ := c_keepSoft hw hK2.1 s2
    rw [h3, mb_bd]
    have hN3 : CN S3 := (hN1.ag a2).ag a3
    have hM3 : CM T S3 := (hM1.ag a2 (by decide) (by decide)).ag a3 (by decide) (by decide)
    have h133 : ¬ gI S3 4 13 = 0 := by rw [a3.1 4 13 (by decide), a2.1 4 13 (by decide)]; exact h13
    obtain ⟨S4, h4, a4, z4, o4⟩ := c_narrow (on := on) hw hN3 h133 hM3 (keS_lt hw on) k3 (by rw [a3.1 4 9 (by decide)]; exact z2) (fun k x hx => by rw [a3.2.1 4 7 (by decide)]; exact o2 k x hx)
    rw [h4, mb_bd, mb_nm]
    obtain ⟨S5, e5⟩ : ∃ S5, S5 = pI S4 4 16 1 := ⟨_, rfl⟩
    rw [← e5]
    have a5 : agC [(4, 16)] [] [] S4 S5 := by rw [e5]; exact agC.pI S4 4 16 _ (by decide)
    have a25 : agC [(4, 9), (4, 10), (4, 16)] [(4, 3), (4, 7)] [] S1 S5 := (((a2.wk (by decide) (by decide) (by decide)).tr (a3.wk (by decide) (by decide) (by decide))).tr (a4.wk (by decide) (by decide) (by decide))).tr (a5.wk (by decide) (by decide) (by decide))
    have aD : agD [(4, 9), (4, 10), (4, 13), (4, 16)] [(4, 1), (4, 2), (4, 3), (4, 5), (4, 7), (6, 0)] [] S S5 := (a1.wk (by decide) (by decide) (by decide)).tr (a25.D.wk (by decide) (by decide) (by decide))
    have e16 : ¬ gI S5 4 16 = 0 := by rw [e5, mb_II, if_pos ⟨rfl, rfl⟩]; decide
    have e135 : ¬ gI S5 4 13 = 0 := by rw [a25.1 4 13 (by decide)]; exact h13
    have hN5 : CN S5 := hN1.ag a25
    refine ⟨S5, rfl, ⟨hw, ?_, hK1.ag a25 (by decide) (by decide), hN5, hM1.ag a25 (by decide) (by decide), ⟨?_, hF.2.1, fun _ => ⟨e135, ?_, ?_, ?_⟩⟩, ?_, ?_, ?_, ?_, ?_, ?_, ?_⟩, e16, ?_⟩
    · unfold CT
      rw [aD.1 0 6 (by decide), aD.1 0 7 (by decide), aD.2.1 0 0 (by decide)]
      exact hT
    · rw [aD.1 4 12 (by decide)]; exact hF.1
    · rw [a5.1 4 9 (by decide)]; exact z4
    · rw [a5.1 4 10 (by decide), a4.1 4 10 (by decide)]; exact k3
    · intro k x hx
      rw [a5.2.1 4 7 (by decide)]
      exact o4 k x hx
    · intro z
      rw [aD.1 4 15 (by decide)] at z
      obtain ⟨g1, g2, g3⟩ := hS z
      refine ⟨e135, ?_, fun i hi => ?_⟩
      · rw [a25.2.2.2, e6]; exact g2
      · rw [aD.2.1 4 6 (by decide)]; exact g3 i hi
    · intro z
      rw [aD.1 4 17 (by decide)] at z
      exact absurd c (hU z).1
    · unfold CL
      rw [aD.1 7 1 (by decide), aD.2.1 7 0 (by decide)]
      exact hL
    · unfold CX SR
      rw [aD.1 8 8 (by decide), aD.1 8 6 (by decide), aD.2.1 8 0 (by decide), aD.2.1 8 1 (by decide), aD.2.1 8 2 (by decide)]
      exact hX
    · unfold CY
      rw [aD.1 8 9 (by decide), aD.2.1 8 4 (by decide)]
      exact hY
    · unfold CZ
      rw [aD.1 8 10 (by decide), aD.1 8 8 (by decide), aD.1 8 7 (by decide), aD.2.1 8 5 (by decide)]
      exact hZ
    · unfold CC
      rw [aD.1 9 6 (by decide), aD.1 9 5 (by decide), aD.2.2 9 3 (by decide), aD.2.2 9 4 (by decide)]
      exact hC
    · unfold Ph
      rw [a25.2.2.2, e6]
      omega
  · rw [if_neg c]
    refine ⟨S, rfl, ⟨hw, hT, hK, hN, hM, hF, hS, hU, hL, hX, hY, hZ, hC⟩, c, ?_⟩
    unfold kMark
    rw [if_neg (hF.2.2 c).1]
    omega
theorem c_inputOf (h : cInv T on lg tn tb pl S) (hf : ¬ gI S 4 16 = 0) {k x : Nat} (hx : (lwS T on)[k]? = some x) : f_Chart_inputOf S (nI k) = some (nI x) := by
  obtain ⟨hw, -, -, hN, hM, hF, -⟩ := h
  obtain ⟨h13, h9, -, ho⟩ := hF.2.2 hf
  obtain ⟨hge, -, -⟩ := hM.1 h13
  have hlen := lw_len T on (keS T on) (tIn T)
  have hlen : (lwS T on).length ≤ tIn T := hlen
  have n1 := hw.2.2.1
  have hl5 := hN.1
  have e7 := hN.2.1
  unfold lnS at hl5
  have hk : k < (lwS T on).length := by
    rcases Nat.lt_or_ge k (lwS T on).length with z | z
    · exact z
    · rw [List.getElem?_eq_none z] at hx
      cases hx
  unfold f_Chart_inputOf Chart_inputOf_j31
  rw [if_neg (nI_pos (by omega)), h9, if_neg (by rw [mb_le (by omega) (by omega)]; omega), e7, if_neg (by rw [mb_le (by omega) (by omega)]; omega), mb_in (by omega) (by omega), mb_gd, mb_cl (by omega), ho k x hx]
theorem cc_lawful (h : cInv T on lg tn tb pl S) : ∃ S', f_Lots_lawful S = some (nI (lwS T on).length, S') ∧ cInv T on lg tn tb pl S' ∧ Ph S + kMark S ≤ Ph S' := by
  obtain ⟨S1, h1, hi, hf, hp⟩ := c_refresh h
  unfold f_Lots_lawful
  rw [h1, mb_bd, (hi.2.2.2.2.2.1.2.2 hf).2.1]
  exact ⟨S1, rfl, hi, hp⟩
theorem cc_kept (h : cInv T on lg tn tb pl S) : ∃ S', f_Lots_kept S = some (nI (keS T on), S') ∧ cInv T on lg tn tb pl S' ∧ Ph S + kMark S ≤ Ph S' := by
  obtain ⟨S1, h1, hi, hf, hp⟩ := c_refresh h
  unfold f_Lots_kept
  rw [h1, mb_bd, (hi.2.2.2.2.2.1.2.2 hf).2.2.1]
  exact ⟨S1, rfl, hi, hp⟩
theorem cc_place (h : cInv T on lg tn tb pl S) : f_Lots_place S = some pl := by
  unfold f_Lots_place
  rw [h.2.1.2.2.1]
theorem cc_value (h : cInv T on lg tn tb pl S) (x y : Int32) : ∃ S', f_Lots_value S x y = some (spValue T on x y, S') ∧ cInv T on lg tn tb pl S' ∧ Ph S + kMark S ≤ Ph S' := by
  obtain ⟨S1, h1, hi, hf, hp⟩ := c_refresh h
  have hw := h.1
  have hlen := lwS_len hw on
  refine ⟨S1, ?_, hi, hp⟩
  unfold f_Lots_value Lots_value_j22
  rw [h1, mb_bd, (hi.2.2.2.2.2.1.2.2 hf).2.1]
  unfold spValue
  cases hx : ixN x (lwS T on).length with
  | none =>
    rcases ixN_n hx with c | ⟨c, d⟩
    · rw [if_pos c]
    · rw [if_neg c, if_neg (fun z => absurd (Int32.lt_of_lt_of_le z d) Int32.lt_irrefl)]
  | some k =>
    obtain ⟨hk, rfl, c, d⟩ := ixN_s (by omega) hx
    have hg := get_some hk
    have hlt := lwS_lt hg
    have n1 := hw.2.2.1
    rw [if_neg c, if_pos (by rw [mb_lt (by omega) (by omega)]; exact hk), c_inputOf hi hf hg, mb_bd]
    dsimp only
    cases hy : ixN y (tNf T) with
    | none => rw [c_valueIn0 hi.2.2.1.1 _ hy, mb_bd]
    | some f =>
      obtain ⟨hf2, rfl, -, -⟩ := ixN_s (by have := hw.1; omega) hy
      rw [c_valueIn hw hi.2.2.1.1 (by omega) hf2, mb_bd]
theorem c_logIn (h : CL T lg S) {k x : Nat} (hx : lg[k]? = some x) : f_Log_inputOf S (nI k) = some (nI x) := by
  have h1 := h.1
  have hk : k < lg.length := by
    rcases Nat.lt_or_ge k lg.length with z | z
    · exact z
    · rw [List.getElem?_eq_none z] at hx
      cases hx
  unfold f_Log_inputOf Log_inputOf_j31
  rw [if_neg (nI_pos (by omega)), h.2.1, if_neg (by rw [mb_le (by omega) (by omega)]; omega), if_neg (by rw [mb_le (by omega) (by omega)]; omega), mb_in (by omega) (by decide), mb_gd, mb_cl (by omega), (h.2.2 k x hx).1]
theorem cc_logged (h : cInv T on lg tn tb pl S) (x y : Int32) : f_Lots_logged S x y = some (spLogged T lg x y) := by
  have hw := h.1
  obtain ⟨-, -, hK, -, -, -, -, -, hL, -⟩ := h
  have h1 := hL.1
  unfold f_Lots_logged Lots_logged_j15 Lots_logged_j38
  rw [hL.2.1]
  unfold spLogged
  cases hx : ixN x lg.length with
  | none =>
    rcases ixN_n hx with c | ⟨c, d⟩
    · rw [if_pos c]
    · rw [if_neg c, if_neg (fun z => absurd (Int32.lt_of_lt_of_le z d) Int32.lt_irrefl)]
  | some k =>
    obtain ⟨hk, rfl, c, d⟩ := ixN_s (by omega) hx
    have hg := get_some hk
    have hlt := (hL.2.2 _ _ hg).2
    have n1 := hw.2.2.1
    rw [if_neg c, if_pos (by rw [mb_lt (by omega) (by omega)]; exact hk), c_logIn hL hg, mb_bd]
    dsimp only
    cases hy : ixN y (tNf T) with
    | none => rw [c_valueIn0 hK.1 _ hy, mb_bd]
    | some f =>
      obtain ⟨hf2, rfl, -, -⟩ := ixN_s (by have := hw.1; omega) hy
      rw [c_valueIn hw hK.1 (by omega) hf2, mb_bd]
