/-! the reference: draw, fallen, turn, feed -/
section MO3
variable {T : Tx} {on tn : Nat} {lg : List Nat} {tb : Nat → Int32} {pl : Int32} {M : St}
/-- the log behind a draw -/
def spLog (T : Tx) (on : Nat) (lg : List Nat) (x : Int32) : List Nat := match pkTo T (lwS T on) x (lwS T on).length with
  | none => lg
  | some k => if lg.length < 200 then lg ++ [(lwS T on).getD k 0] else lg
def spDraw (T : Tx) (on : Nat) (lg : List Nat) (seed : Int64) (i : Int32) : Int32 × List Nat :=
  if shSum T (lwS T on) = 0 then (-1, lg) else if 0 ≤ i then (spPk T on (xd (shSum T (lwS T on)) seed i), spLog T on lg (xd (shSum T (lwS T on)) seed i)) else (-1, lg)
theorem mo_draw (h : mInv T on lg tn tb pl M) (seed : Int64) (i : Int32) : ∃ M', f_Model_draw M seed i = some ((spDraw T on lg seed i).1, M') ∧ mInv T on (spDraw T on lg seed i).2 tn tb pl M' := by
  obtain ⟨hw, -, -, -, -, hs, -, -, hl, -⟩ := id h
  have hlen := lwS_len hw on
  have hsum := shSum_le T (lwS T on)
  have hl1 := hl.1
  unfold f_Model_draw Model_draw_j11 Model_draw_j92 spDraw
  rw [hs.2.2.1]
  by_cases c0 : shSum T (lwS T on) = 0
  · rw [if_pos c0, if_pos (by rw [c0]; rfl)]
    exact ⟨M, rfl, h⟩
  · rw [if_neg c0, if_neg (by rw [l0, mb_eq (by omega) (by omega)]; exact c0)]
    by_cases ci : 0 ≤ i
    · rw [if_pos ci, if_pos ci]
      have hz : nzL (nI (shSum T (lwS T on))).toInt64 = true := by
        refine decide_eq_true ?_
        rw [nI_l (by omega)]
        intro e
        have : lN (shSum T (lwS T on)) = lN 0 := e
        rw [lN_eq (by omega) (by omega)] at this
        exact c0 this
      obtain ⟨j, hj, ej⟩ := xd_lt (show 0 < shSum T (lwS T on) by omega) (by omega) seed i
      obtain ⟨k, hk, hf⟩ := pk_found hw hj
      have hg := get_some hk
      have ep : spPk T on (xd (shSum T (lwS T on)) seed i) = nI k := by
        rw [ej]
        unfold spPk
        rw [hf]
      have el : spLog T on lg (xd (shSum T (lwS T on)) seed i) = (if lg.length < 200 then lg ++ [(lwS T on).getD k 0] else lg) := by
        rw [ej]
        unfold spLog
        rw [hf]
      have body : f_Model_picked M (xd (shSum T (lwS T on)) seed i) = some (nI k) := by rw [m_picked hw hs, ep]
      dsimp only
      rw [ep, el, mb_nm, mb_nm, hz, mb_gd]
      show ∃ M', (bd (f_Model_picked M (xd (shSum T (lwS T on)) seed i)) fun v_7 => _) = _ ∧ _
      rw [body, mb_bd, hl.2.1]
      by_cases cl : lg.length < 200
      · rw [if_neg (by rw [show (200 : Int32) = nI 200 from rfl, mb_le (by omega) (by omega)]; omega), if_pos cl, mb_in (by omega) (by decide), mb_gd, mb_in (by omega) (by decide), mb_gd, mb_cl (by omega), mb_cl (by omega), (hs.2.2.2 k _ hg).1, mb_nm, mb_IA, hl.2.1, nI_1, mb_nm]
        refine ⟨_, rfl, ?_⟩
        have a1 : agY [58] [59] M (pI (pA M 0 59 lg.length (nI ((lwS T on).getD k 0))) 0 58 (nI (lg.length + 1))) := (agY.pA M 59 _ _ (by decide)).tr (agY.pI _ 58 _ (by decide))
        obtain ⟨hw, ⟨lv, hM, hh, he⟩, ho, hb, hd, hs, ht, hp, hl, hky⟩ := h
        have aT : agT lv M _ := a1.toT (by decide) (by decide) lv
        refine ⟨hw, ⟨lv, hM.ag hw aT, hh.ag aT, he.ag aT⟩, ho.ag a1 (by decide), hb.ag a1 (by decide) ⟨by decide, by decide, by decide⟩, hd.ag a1 (by decide), ⟨?_, ?_, ?_, ?_⟩, ⟨ht.1, ?_, ?_⟩, ?_, ⟨?_, ?_, ?_⟩, ?_⟩
        · rw [a1.1 53 (by decide)]; exact hs.1
        · rw [a1.1 54 (by decide)]; exact hs.2.1
        · rw [a1.1 57 (by decide)]; exact hs.2.2.1
        · rw [a1.2.1 55 (by decide), a1.2.1 56 (by decide)]; exact hs.2.2.2
        · rw [a1.1 2 (by decide)]; exact ht.2.1
        · rw [a1.2.1 1 (by decide)]; exact ht.2.2
        · rw [a1.1 17 (by decide)]; exact hp
        · rw [List.length_append]; show lg.length + 1 ≤ 200; omega
        · rw [mb_II, if_pos ⟨rfl, rfl⟩, List.length_append]; rfl
        · intro q x hx
          show gA (pA M 0 59 lg.length (nI ((lwS T on).getD k 0))) 0 59 q = nI x ∧ x < tIn T
          rw [mb_AA]
          by_cases e : q = lg.length
          · rw [List.getElem?_append_right (by omega), e, Nat.sub_self] at hx
            cases hx
            rw [if_pos ⟨rfl, rfl, e⟩]
            exact ⟨rfl, lwS_lt hg⟩
          · have hlt : q < lg.length := by
              have := (List.getElem?_eq_some_iff.mp hx).1
              rw [List.length_append] at this
              have t1 : q < lg.length + 1 := this
              omega
            rw [List.getElem?_append_left hlt] at hx
            rw [if_neg (fun z => e z.2.2)]
            exact hl.2.2 q x hx
        · unfold KY
          rw [a1.2.2.1, a1.1 52 (by decide)]
          exact hky
      · rw [if_pos (by rw [show (200 : Int32) = nI 200 from rfl, mb_le (by omega) (by omega)]; omega), if_neg cl]
        exact ⟨M, rfl, h⟩
    · rw [if_neg ci, if_neg ci]
      exact ⟨M, rfl, h⟩
theorem fl_len (T : Tx) (on : Nat) (lg : List Nat) : ∀ k, (flTo T on lg k).length ≤ k
  | 0 => Nat.le_refl 0
  | k + 1 => by
    have h := fl_len T on lg k
    show (cond (isL T on (keS T on) (lg.getD k 0)) (flTo T on lg k) (flTo T on lg k ++ [k])).length ≤ k + 1
    cases isL T on (keS T on) (lg.getD k 0)
    · show (flTo T on lg k ++ [k]).length ≤ k + 1
      rw [List.length_append]
      show (flTo T on lg k).length + 1 ≤ k + 1
      omega
    · show (flTo T on lg k).length ≤ k + 1; omega
theorem fl_more (T : Tx) (on : Nat) (lg : List Nat) {k n x : Nat} (hx : (flTo T on lg k)[n]? = some x) : ∀ m, k ≤ m → (flTo T on lg m)[n]? = some x := by
  intro m hm
  induction hm with
  | refl => exact hx
  | step _ ih =>
    rename_i m _
    show (cond (isL T on (keS T on) (lg.getD m 0)) (flTo T on lg m) (flTo T on lg m ++ [m]))[n]? = some x
    cases isL T on (keS T on) (lg.getD m 0)
    · show (flTo T on lg m ++ [m])[n]? = some x
      rw [List.getElem?_append_left (List.getElem?_eq_some_iff.mp ih).1]
      exact ih
    · exact ih
theorem mo_fallen (h : mInv T on lg tn tb pl M) (x : Int32) : f_Model_fallen M x = some (spFallen T on lg x) := by
  obtain ⟨hw, ⟨lv, hM, -, -⟩, ho, hb, hd, hs, -, -, hl, -⟩ := h
  have hl1 := hl.1
  have hfl := fl_len T on lg lg.length
  unfold f_Model_fallen
  by_cases c0 : 0 ≤ x
  · rw [if_pos c0]
    obtain ⟨n, hn, rfl⟩ : ∃ n, n < 2147483648 ∧ x = nI n := by
      obtain ⟨j, h1, h2⟩ := nI_of (x := x) (fun q => Int32.lt_irrefl (Int32.lt_of_lt_of_le q c0))
      exact ⟨j, h1, h2⟩
    have key := wh_ix (f := un2 (Model_fallen_l10 M)) (s := (nI n, (0 : Int32))) lg.length (fun k q => q.2 = nI k ∧ (flTo T on lg k).length ≤ n ∧ q.1 = nI (n - (flTo T on lg k).length)) (fun r => r = spFallen T on lg (nI n)) ⟨rfl, Nat.zero_le _, rfl⟩ ?_ ?_
    · obtain ⟨r, h1, h2⟩ := key
      rw [h1, h2]
    · intro k q hk hI
      obtain ⟨x2, x3⟩ := q
      obtain ⟨e1, hle, e2⟩ := hI
      dsimp only at e1 hle e2
      subst e1 e2
      obtain ⟨g1, g2⟩ := hl.2.2 k _ (get_some hk)
      have ek : flTo T on lg (k + 1) = cond (isL T on (keS T on) (lg.getD k 0)) (flTo T on lg k) (flTo T on lg k ++ [k]) := rfl
      have b0 : Model_fallen_l10 M (nI (n - (flTo T on lg k).length)) (nI k) = (if b2i (isL T on (keS T on) (lg.getD k 0)) = 0 then (if nI (n - (flTo T on lg k).length) = 0 then (some (.inr (nI k))) else (nm (nI (n - (flTo T on lg k).length) + (-1 : Int32)) fun x2_8 => Model_fallen_j43_l10 M x2_8 (nI k))) else (Model_fallen_j43_l10 M (nI (n - (flTo T on lg k).length)) (nI k))) := by
        unfold Model_fallen_l10
        rw [hl.2.1, if_neg (by rw [mb_le (by omega) (by omega)]; omega), mb_in (by omega) (by decide), mb_gd, mb_cl (by omega), g1, m_isLawful hw hM hb ho hs.1 (keS_lt hw on) g2, mb_bd]
      cases hc : isL T on (keS T on) (lg.getD k 0) with
      | true =>
        left
        rw [hc] at ek b0
        refine ⟨(nI (n - (flTo T on lg k).length), nI (k + 1)), ?_, rfl, by rw [ek]; exact hle, by rw [ek]; rfl⟩
        show Model_fallen_l10 M (nI (n - (flTo T on lg k).length)) (nI k) = _
        rw [b0, if_neg (by decide)]
        unfold Model_fallen_j43_l10
        rw [mb_nm, nI_1]
      | false =>
        rw [hc] at ek b0
        have ek' : flTo T on lg (k + 1) = flTo T on lg k ++ [k] := ek
        have hlen' : (flTo T on lg (k + 1)).length = (flTo T on lg k).length + 1 := by rw [ek', List.length_append]; rfl
        by_cases cz : (flTo T on lg k).length = n
        · right
          refine ⟨nI k, ?_, ?_⟩
          · show Model_fallen_l10 M (nI (n - (flTo T on lg k).length)) (nI k) = _
            rw [b0, if_pos (by rfl), if_pos (by rw [cz, Nat.sub_self]; rfl)]
          · have hx : (flTo T on lg (k + 1))[n]? = some k := by
              rw [ek', List.getElem?_append_right (by omega), cz, Nat.sub_self]
              rfl
            have hx2 := fl_more T on lg hx lg.length (by omega)
            have hlt := (List.getElem?_eq_some_iff.mp hx2).1
            unfold spFallen ixN
            rw [if_neg (nI_pos (by omega)), if_neg (by rw [mb_le (by omega) (by omega)]; omega), mb_cl (by omega)]
            dsimp only
            rw [List.getD_eq_getElem?_getD, hx2]
            rfl
        · left
          obtain ⟨d, hd⟩ : ∃ d, n - (flTo T on lg k).length = d + 1 := ⟨n - (flTo T on lg k).length - 1, by omega⟩
          refine ⟨(nI (n - (flTo T on lg (k + 1)).length), nI (k + 1)), ?_, rfl, by omega, rfl⟩
          show Model_fallen_l10 M (nI (n - (flTo T on lg k).length)) (nI k) = _
          rw [b0, if_pos (by rfl), if_neg (by rw [l0, mb_eq (by omega) (by omega)]; omega), hd, mb_m1, mb_nm, hlen', show n - ((flTo T on lg k).length + 1) = d by omega]
          unfold Model_fallen_j43_l10
          rw [mb_nm, nI_1]
    · intro q hI
      obtain ⟨x2, x3⟩ := q
      obtain ⟨e1, hle, e2⟩ := hI
      dsimp only at e1 hle e2
      subst e1 e2
      refine ⟨-1, ?_, ?_⟩
      · show Model_fallen_l10 M _ (nI lg.length) = _
        unfold Model_fallen_l10
        rw [hl.2.1, if_pos (by rw [mb_le (by omega) (by omega)]; omega)]
      · unfold spFallen ixN
        rw [if_neg (nI_pos (by omega)), if_pos (by rw [mb_le (by omega) (by omega)]; exact hle)]
  · rw [if_neg c0]
    unfold spFallen ixN
    rw [if_pos (Int32.not_le.mp c0)]
end MO3
