/-! the class: fill, fills -/
theorem low_x : ∀ s, s < 256 → 0 < s → ∃ x, x < 8 ∧ s.testBit x = true ∧ (nI s &&& (-(nI s))) = nI (2 ^ x) := by decide +kernel
theorem df_sb {m W : Nat} : df m W = 0 ↔ sb m W := by
  constructor
  · intro h j hj
    have := df_tb m W j
    rw [h, hj, Nat.zero_testBit] at this
    cases hW : W.testBit j with
    | true => rfl
    | false => rw [hW] at this; cases this
  · intro h
    apply tb_ext
    intro j
    rw [df_tb, Nat.zero_testBit]
    cases hm : m.testBit j with
    | false => rfl
    | true => rw [h j hm]; rfl
variable {T : Tx} {on tn : Nat} {lg : List Nat} {tb : Nat → Int32} {pl : Int32} {S S' : St}
theorem cInv.b84 (h : cInv T on lg tn tb pl S) (h9 : gI S 8 10 = 0) (a : agC [(8, 7)] [(8, 5)] [] S S') : cInv T on lg tn tb pl S' := by
  obtain ⟨hw, hT, hK, hN, hM, hF, hS, hU, hL, hX, hY, hZ, hC⟩ := h
  refine ⟨hw, hT.ag a (by decide), hK.ag a (by decide) (by decide), hN.ag a, hM.ag a (by decide) (by decide), hF.ag a (by decide) (by decide), hS.ag a (by decide) (by decide), hU.ag a (by decide) (by decide), hL.ag a (by decide) (by decide), hX.ag a (by decide) (by decide), hY.ag a (by decide) (by decide), ?_, hC.ag a (by decide) (by decide)⟩
  intro z
  rw [a.1 8 10 (by decide)] at z
  exact absurd h9 z
theorem mn_8 {j v : Nat} (hw : wfT T) (hj : sb j (waS T on lg)) (h : Mn (fun k => k < (lwS T on).length) (bq T on) j v) : v ≤ 8 :=
  (h.2 8 (by decide)).1 (cv_full (n := 8) (Nat.lt_of_le_of_lt (sb_le hj) (wa_lt hw on lg)) (fun _ q => wa_full T on lg (hj _ q)))
theorem wa_lt2 (T : Tx) (on : Nat) (lg : List Nat) : waS T on lg < 2 ^ tNt T 2 := Nat.lt_of_le_of_lt Nat.and_le_right (woK_lt T lg _)
def fwP (T : Tx) (on : Nat) (lg : List Nat) (n : Nat) (S : St) : Prop := ∀ j, j < n → sb j (waS T on lg) → ∃ v, gA S 8 5 j = nI v ∧ Mn (fun k => k < (lwS T on).length) (bq T on) j v
theorem fw_F (hw : wfT T) {n : Nat} (h : fwP T on lg n S) {j : Nat} (hj : j < n) (hs : sb j (waS T on lg)) : gA S 8 5 j = nI (gA S 8 5 j).toNatClampNeg ∧ Mn (fun k => k < (lwS T on).length) (bq T on) j (gA S 8 5 j).toNatClampNeg := by
  obtain ⟨v, h1, h2⟩ := h j hj hs
  have := mn_8 hw hs h2
  rw [h1, mb_cl (by omega)]
  exact ⟨rfl, h2⟩
theorem c_fewest (hw : wfT T) (hX : SR T on (lwS T on).length S) {set : Nat} (h0 : 0 < set) (hs : sb set (waS T on lg)) (hF : fwP T on lg set S) : ∃ v, f_Bins_fewestFor S (nI set) = some (nI v) ∧ Mn (fun k => k < (lwS T on).length) (bq T on) set v := by
  have hlen := lwS_len hw on
  obtain ⟨m, fk, hm8, em, hSN, hrow⟩ := hX
  have hs8 : set < 256 := Nat.lt_of_le_of_lt (sb_le hs) (wa_lt hw on lg)
  obtain ⟨x, hx8, hx, hlow⟩ := low_x set hs8 h0
  have hdf : ∀ k, (bq T on k).testBit x = true → df set (bq T on k) < set ∧ sb (df set (bq T on k)) (waS T on lg) := fun k hk => ⟨df_lt hx hk, (sb_df set _).tr hs⟩
  obtain ⟨F, eF⟩ : ∃ F : Nat → Nat, F = fun j => (gA S 8 5 j).toNatClampNeg := ⟨_, rfl⟩
  have hFF : ∀ j, j < set → sb j (waS T on lg) → gA S 8 5 j = nI (F j) ∧ Mn (fun k => k < (lwS T on).length) (bq T on) j (F j) ∧ F j ≤ 8 := by
    intro j hj hjs
    obtain ⟨g1, g2⟩ := fw_F hw hF hj hjs
    rw [eF]
    exact ⟨g1, g2, mn_8 hw hjs g2⟩
  have key := wh_ix (f := un2 (Bins_fewestFor_l11 S (nI set) (nI (2 ^ x)))) (s := ((1000000 : Int32), (0 : Int32))) m (fun i q => q.2 = nI i ∧ ((q.1 = nI 1000000 ∧ ∀ a, a < i → (bq T on (fk a)).testBit x = false) ∨ ∃ v k, q.1 = nI v ∧ v ≤ 9 ∧ k < (lwS T on).length ∧ (bq T on k).testBit x = true ∧ v = F (df set (bq T on k)) + 1 ∧ ∀ a, a < i → (bq T on (fk a)).testBit x = true → v ≤ F (df set (bq T on (fk a))) + 1)) (fun r => ∃ v, r = nI v ∧ Mn (fun k => k < (lwS T on).length) (bq T on) set v) ⟨rfl, Or.inl ⟨rfl, fun a ha => absurd ha (Nat.not_lt_zero a)⟩⟩ ?_ ?_
  · obtain ⟨r, h1, v, e, h2⟩ := key
    refine ⟨v, ?_, h2⟩
    unfold f_Bins_fewestFor f_Integer_lowestOneBit Bins_fewestFor_j73
    rw [hlow, mb_bd, h1, mb_bd, e]
  · intro i q hi hI
    obtain ⟨x3, x4⟩ := q
    obtain ⟨e1, hinv⟩ := hI
    dsimp only at e1 hinv
    subst e1
    have hb8 := bq_lt hw on (fk i)
    have hfi := hSN.1 i hi
    have r1 := (hrow i hi).1
    left
    have hd8 := df_le8 (bq T on (fk i)) hs8
    have head : Bins_fewestFor_l11 S (nI set) (nI (2 ^ x)) x3 (nI i) = (if (bq T on (fk i)).testBit x = false then some (.inl (x3, nI (i + 1))) else some (.inl ((if gA S 8 5 (df set (bq T on (fk i))) + 1 < x3 then gA S 8 5 (df set (bq T on (fk i))) + 1 else x3), nI (i + 1)))) := by
      unfold Bins_fewestFor_l11 Bins_fewestFor_j67_l11
      rw [em, if_neg (by rw [mb_le (by omega) (by omega)]; omega), if_neg (by rw [l256, mb_le (by omega) (by omega)]; omega), mb_in (show i < 256 by omega) (by decide), mb_gd, mb_gd, mb_cl (show i < 2147483648 by omega), r1, df_I hs8 hb8, nI_255 hd8, mb_in hd8 (by decide), mb_gd, mb_cl (show df set (bq T on (fk i)) < 2147483648 by omega)]
      simp only [mb_nm]
      rw [nI_1]
      by_cases c : (bq T on (fk i)).testBit x = false
      · rw [if_pos (by rw [and_pow_I hb8 hx8]; exact c), if_pos c]
      · rw [if_neg (by rw [and_pow_I hb8 hx8]; exact c), if_neg c]
    show ∃ t, Bins_fewestFor_l11 S (nI set) (nI (2 ^ x)) x3 (nI i) = some (.inl t) ∧ _
    rw [head]
    by_cases c : (bq T on (fk i)).testBit x = false
    · rw [if_pos c]
      refine ⟨_, rfl, rfl, ?_⟩
      rcases hinv with ⟨z1, z2⟩ | ⟨v, k, z1, z2, z3, z4, z5, z6⟩
      · refine Or.inl ⟨z1, fun a ha => ?_⟩
        by_cases e : a = i
        · rw [e]; exact c
        · exact z2 a (by omega)
      · refine Or.inr ⟨v, k, z1, z2, z3, z4, z5, fun a ha hb2 => ?_⟩
        by_cases e : a = i
        · rw [e, c] at hb2; cases hb2
        · exact z6 a (by omega) hb2
    · rw [if_neg c]
      have ct : (bq T on (fk i)).testBit x = true := by
        cases hb : (bq T on (fk i)).testBit x with
        | true => rfl
        | false => exact absurd hb c
      obtain ⟨d1, d2⟩ := hdf (fk i) ct
      obtain ⟨f1, f2, f3⟩ := hFF _ d1 d2
      rw [f1, nI_1]
      refine ⟨_, rfl, rfl, ?_⟩
      dsimp only
      rcases hinv with ⟨z1, z2⟩ | ⟨v, k, z1, z2, z3, z4, z5, z6⟩
      · right
        subst z1
        rw [if_pos (by rw [mb_lt (by omega) (by omega)]; omega)]
        refine ⟨_, fk i, rfl, by omega, hfi, ct, rfl, fun a ha hb2 => ?_⟩
        by_cases e : a = i
        · rw [e]; exact Nat.le_refl _
        · have := z2 a (by omega)
          rw [this] at hb2
          cases hb2
      · right
        subst z1
        by_cases c2 : F (df set (bq T on (fk i))) + 1 < v
        · rw [if_pos (by rw [mb_lt (by omega) (by omega)]; exact c2)]
          refine ⟨_, fk i, rfl, by omega, hfi, ct, rfl, fun a ha hb2 => ?_⟩
          by_cases e : a = i
          · rw [e]; exact Nat.le_refl _
          · have := z6 a (by omega) hb2
            omega
        · rw [if_neg (by rw [mb_lt (by omega) (by omega)]; exact c2)]
          refine ⟨v, k, rfl, z2, z3, z4, z5, fun a ha hb2 => ?_⟩
          by_cases e : a = i
          · rw [e]; omega
          · exact z6 a (by omega) hb2
  · intro q hI
    obtain ⟨x3, x4⟩ := q
    obtain ⟨e1, hinv⟩ := hI
    dsimp only at e1 hinv
    subst e1
    refine ⟨x3, ?_, ?_⟩
    · show Bins_fewestFor_l11 S (nI set) (nI (2 ^ x)) x3 (nI m) = _
      unfold Bins_fewestFor_l11
      rw [em, if_pos (by rw [mb_le (by omega) (by omega)]; omega)]
    · rcases hinv with ⟨z1, z2⟩ | ⟨v, k, z1, z2, z3, z4, z5, z6⟩
      · obtain ⟨k, hk, hb⟩ := wa_full T on lg (hs x hx)
        obtain ⟨a, ha, -, ea⟩ := hSN.2.2 k hk
        have := z2 a ha
        rw [ea, hb] at this
        cases this
      · refine ⟨v, z1, Mn.step (F := F) (by omega) z2 (fun k' hk' hex => ?_) x hx (fun k' hk' hb => ?_) (fun _ => ⟨k, z3, ⟨x, hx, z4⟩, z5⟩)⟩
        · obtain ⟨j, hj1, hj2⟩ := hex
          exact (hFF _ (df_lt hj1 hj2) ((sb_df set _).tr hs)).2.1
        · obtain ⟨a, ha, -, ea⟩ := hSN.2.2 k' hk'
          have := z6 a ha (by rw [ea]; exact hb)
          rw [ea] at this
          exact this
theorem sp_meet0 {b : Nat} : spMeet T on (2 ^ b) = 0 ↔ ¬ ∃ k, k < (lwS T on).length ∧ (bq T on k).testBit b = true := by
  have hp : ∀ i, has (bN T 2 i) (2 ^ b) = true ↔ (bN T 2 i).testBit b = true := by
    intro i
    rw [has_iff]
    constructor
    · intro h
      exact h b (Nat.testBit_two_pow_self)
    · intro h j hj
      rw [Nat.testBit_two_pow] at hj
      have : b = j := of_decide_eq_true hj
      rw [← this]
      exact h
  unfold spMeet cN
  rw [List.length_eq_zero_iff, List.filter_eq_nil_iff]
  constructor
  · rintro h ⟨k, hk, hb⟩
    exact h _ (List.mem_of_getElem? (get_some hk)) ((hp _).mpr hb)
  · intro h x hx hb
    obtain ⟨i, hi⟩ := List.getElem?_of_mem hx
    have hlt := (List.getElem?_eq_some_iff.mp hi).1
    refine h ⟨i, hlt, ?_⟩
    have e : (lwS T on).getD i 0 = x := by rw [List.getD_eq_getElem?_getD, hi]; rfl
    unfold bq
    rw [e]
    exact (hp x).mp hb
theorem wa_tb (hw : wfT T) {b : Nat} (hb : b < tNt T 2) : (waS T on lg).testBit b = ((unS T lg).testBit b && !Nat.beq (spMeet T on (2 ^ b)) 0) := by
  have n8 := hw.2.2.2.1 2 (by decide)
  unfold waS woS
  rw [Nat.testBit_and, woK_tb, decide_eq_true hb, Bool.true_and, unS_tb T lg (by omega), Bool.and_comm]
  congr 1
  rw [Bool.eq_iff_iff, orK_tb, Bool.not_eq_true']
  constructor
  · intro h
    cases hc : Nat.beq (spMeet T on (2 ^ b)) 0 with
    | false => rfl
    | true => exact absurd h (sp_meet0.mp (Nat.eq_of_beq_eq_true hc))
  · intro h
    refine Classical.byContradiction (fun q => ?_)
    rw [sp_meet0.mpr q] at h
    cases h
theorem c_plan (h : cInv T on lg tn tb pl S) (h14 : ¬ gI S 4 14 = 0) (h7 : ¬ gI S 8 8 = 0) : ∃ S', f_Bins_plan S = some S' ∧ cInv T on lg tn tb pl S' ∧ gN S' = gN S ∧ ¬ gI S' 8 10 = 0 ∧ ¬ gI S' 8 8 = 0 := by
  have hw := h.1
  have n8 := hw.2.2.2.1 2 (by decide)
  have hlen := lwS_len hw on
  have hp8 : 2 ^ tNt T 2 ≤ 256 := Nat.pow_le_pow_right (n := 2) (i := tNt T 2) (j := 8) (by decide) n8
  have hp1 : 1 ≤ 2 ^ tNt T 2 := Nat.one_le_two_pow
  have hW := wa_lt hw on lg
  have hW2 := wa_lt2 T on lg
  unfold f_Bins_plan
  by_cases c : gI S 8 10 = 0
  · rw [if_pos c, mb_nm]
    have a1 : agC [(8, 7)] [(8, 5)] [] S (pI S 8 7 0) := agC.pI S 8 7 _ (by decide)
    have hi1 := h.b84 c a1
    rw [c_unmet hi1 (by rw [a1.1 4 14 (by decide)]; exact h14), mb_bd]
    have key := wh_ix (f := un2 (Bins_plan_l22 (nI (unS T lg)))) (s := (pI S 8 7 0, (0 : Int32))) (tNt T 2) (fun n q => q.2 = nI n ∧ agC [(8, 7)] [(8, 5)] [] S q.1 ∧ ∃ t, gI q.1 8 7 = nI t ∧ t < 256 ∧ ∀ j, t.testBit j = (decide (j < n) && (waS T on lg).testBit j)) (fun S' => agC [(8, 7)] [(8, 5)] [] S S' ∧ gI S' 8 7 = nI (waS T on lg)) ⟨rfl, a1, 0, by show gI (pI S 8 7 0) 8 7 = _; rw [mb_II, if_pos ⟨rfl, rfl⟩]; rfl, by decide, fun j => by simp⟩ ?_ ?_
    · obtain ⟨S2, h2, a2, e2⟩ := key
      rw [h2, mb_bd, show inb (0 : Int32) 256 = true from rfl, mb_gd, mb_nm, show ((0 : Int32)).toNatClampNeg = 0 from rfl]
      have a3 : agC [(8, 7)] [(8, 5)] [] S (pA S2 8 5 0 0) := a2.tr (agC.pA S2 8 5 _ _ (by decide))
      have kz := wh_ix (f := un2 Bins_plan_l84) (s := (pA S2 8 5 0 0, (1 : Int32))) (waS T on lg) (fun i q => q.2 = nI (i + 1) ∧ agC [(8, 7)] [(8, 5)] [] S q.1 ∧ gI q.1 8 7 = nI (waS T on lg) ∧ fwP T on lg (i + 1) q.1) (fun S' => agC [(8, 7)] [(8, 5)] [] S S' ∧ gI S' 8 7 = nI (waS T on lg) ∧ fwP T on lg (waS T on lg + 1) S') ⟨rfl, a3, e2, fun j hj _ => by
          have : j = 0 := by omega
          subst this
          refine ⟨0, ?_, Mn.z _ _⟩
          show gA (pA S2 8 5 0 0) 8 5 0 = _
          rw [mb_AA, if_pos ⟨rfl, rfl, rfl⟩]
          rfl⟩ ?_ ?_
      · obtain ⟨S4, h4, a4, e4, f4⟩ := kz
        unfold Bins_plan_j132
        rw [h4, mb_bd, mb_nm]
        have hi4 := h.b84 c a4
        have a5 : agC [(8, 10)] [] [] S4 (pI S4 8 10 1) := agC.pI S4 8 10 _ (by decide)
        obtain ⟨-, hT, hK, hN, hM, hF, hS, hU, hL, hX, hY, hZ, hC⟩ := hi4
        have h74 : ¬ gI (pI S4 8 10 1) 8 8 = 0 := by rw [a5.1 8 8 (by decide), a4.1 8 8 (by decide)]; exact h7
        refine ⟨_, rfl, ⟨hw, hT.ag a5 (by decide), hK.ag a5 (by decide) (by decide), hN.ag a5, hM.ag a5 (by decide) (by decide), hF.ag a5 (by decide) (by decide), hS.ag a5 (by decide) (by decide), hU.ag a5 (by decide) (by decide), hL.ag a5 (by decide) (by decide), hX.ag a5 (by decide) (by decide), hY.ag a5 (by decide) (by decide), fun _ => ⟨h74, by rw [a5.1 8 7 (by decide)]; exact e4, fun set hs8 hs => ?_⟩, hC.ag a5 (by decide) (by decide)⟩, by rw [a5.2.2.2, a4.2.2.2], ?_, h74⟩
        · rw [a5.2.1 8 5 (by decide)]
          exact f4 set (Nat.lt_succ_of_le (sb_le hs)) hs
        · rw [mb_II, if_pos ⟨rfl, rfl⟩]; decide
      · intro i q hi hI
        obtain ⟨S3, x⟩ := q
        obtain ⟨e1, a3, e3, f3⟩ := hI
        dsimp only at e1 a3 e3 f3
        subst e1
        have hi3 := h.b84 c a3
        have hX := (hi3.2.2.2.2.2.2.2.2.2.1 (by rw [a3.1 8 8 (by decide)]; exact h7)).2
        have hm : i + 1 < 256 := by omega
        left
        show ∃ t, Bins_plan_l84 S3 (nI (i + 1)) = some (.inl t) ∧ _
        unfold Bins_plan_l84 Bins_plan_j126_l84
        rw [e3, if_neg (by rw [mb_lt (by omega) (by omega)]; omega), if_neg (by rw [l256, mb_le (by omega) (by omega)]; omega), df_I hm hW]
        by_cases cs : sb (i + 1) (waS T on lg)
        · rw [if_pos (by rw [df_sb.mpr cs]; rfl)]
          obtain ⟨v, hv, hMn⟩ := c_fewest hw hX (by omega) cs f3
          rw [hv, mb_bd, mb_in hm (by decide), mb_gd, mb_nm, mb_nm, mb_cl (by omega), nI_1]
          refine ⟨_, rfl, rfl, a3.tr (agC.pA S3 8 5 _ _ (by decide)), e3, fun j hj hjs => ?_⟩
          show ∃ v, gA (pA S3 8 5 _ _) 8 5 j = nI v ∧ _
          rw [mb_AA]
          by_cases e : j = i + 1
          · rw [if_pos ⟨rfl, rfl, e⟩, e]
            exact ⟨v, rfl, hMn⟩
          · rw [if_neg (fun z => e z.2.2)]
            exact f3 j (by omega) hjs
        · have hd8 := df_le8 (waS T on lg) hm
          rw [if_neg (by rw [l0, mb_eq (by omega) (by omega)]; exact fun z => cs (df_sb.mp z)), mb_nm, nI_1]
          refine ⟨_, rfl, rfl, a3, e3, fun j hj hjs => ?_⟩
          by_cases e : j = i + 1
          · rw [e] at hjs
            exact absurd hjs cs
          · exact f3 j (by omega) hjs
      · intro q hI
        obtain ⟨S3, x⟩ := q
        obtain ⟨e1, a3, e3, f3⟩ := hI
        dsimp only at e1 a3 e3 f3
        subst e1
        refine ⟨S3, ?_, a3, e3, f3⟩
        show Bins_plan_l84 S3 (nI (waS T on lg + 1)) = _
        unfold Bins_plan_l84
        rw [e3, if_pos (by rw [mb_lt (by omega) (by omega)]; omega)]
    · intro n q hn hI
      obtain ⟨S3, x⟩ := q
      obtain ⟨e1, a3, t, e3, ht8, ht⟩ := hI
      dsimp only at e1 a3 e3
      subst e1
      have hi3 := h.b84 c a3
      have hn8 : n < 8 := by omega
      have hb := wa_tb (T := T) (on := on) (lg := lg) hw hn
      have hml : spMeet T on (2 ^ n) ≤ 32768 := Nat.le_trans (cN_le _ _) hlen
      left
      have skip : (waS T on lg).testBit n = false → (nI (n + 1) = nI (n + 1)) ∧ agC [(8, 7)] [(8, 5)] [] S S3 ∧ ∃ t, gI S3 8 7 = nI t ∧ t < 256 ∧ ∀ j, t.testBit j = (decide (j < n + 1) && (waS T on lg).testBit j) := by
        intro hz
        refine ⟨rfl, a3, t, e3, ht8, fun j => ?_⟩
        rw [ht j]
        by_cases e : j = n
        · rw [e, hz, Bool.and_false, Bool.and_false]
        · congr 1
          by_cases e2 : j < n
          · rw [decide_eq_true e2, decide_eq_true (show j < n + 1 by omega)]
          · rw [decide_eq_false e2, decide_eq_false (show ¬ j < n + 1 by omega)]
      show ∃ t, Bins_plan_l22 (nI (unS T lg)) S3 (nI n) = some (.inl t) ∧ _
      unfold Bins_plan_l22 Bins_plan_j68_l22
      rw [show f_Book_toldOf 5 S3 2 = some (nI (tNt T 2)) from c_toldOf hi3.2.2.1.1 (s := 2) (by decide), mb_bd, if_neg (by rw [mb_le (by omega) (by omega)]; omega), sh_bit n hn8, c_meetingAll hi3 (by rw [a3.1 8 8 (by decide)]; exact h7) (pow_lt8 hn8), mb_bd]
      simp only [mb_nm]
      rw [nI_1]
      cases hu : (unS T lg).testBit n with
      | false =>
        rw [hu] at hb
        rw [if_pos (by rw [bit_I (unS_lt T lg) hn8]; exact hu)]
        exact ⟨_, rfl, skip hb⟩
      | true =>
        rw [hu] at hb
        rw [if_neg (by rw [bit_I (unS_lt T lg) hn8, hu]; decide)]
        by_cases cm : spMeet T on (2 ^ n) = 0
        · rw [cm] at hb
          rw [if_pos (by rw [cm]; decide)]
          exact ⟨_, rfl, skip hb⟩
        · have hb2 : (waS T on lg).testBit n = true := by
            rw [hb]
            cases hq : Nat.beq (spMeet T on (2 ^ n)) 0 with
            | true => exact absurd (Nat.eq_of_beq_eq_true hq) cm
            | false => rfl
          rw [if_neg (by rw [l0, mb_le (by omega) (by omega)]; omega), e3, nI_or]
          refine ⟨_, rfl, rfl, a3.tr (agC.pI S3 8 7 _ (by decide)), t ||| 2 ^ n, ?_, or_lt8 ht8 (pow_lt8 hn8), fun j => ?_⟩
          · show gI (pI S3 8 7 _) 8 7 = _
            rw [mb_II, if_pos ⟨rfl, rfl⟩]
          · rw [tb_or_pow, ht j]
            by_cases e : j = n
            · rw [e, hb2, decide_eq_true rfl, decide_eq_true (show n < n + 1 by omega), Bool.or_true]
              rfl
            · rw [decide_eq_false (show ¬ n = j from fun z => e z.symm), Bool.or_false]
              congr 1
              by_cases e2 : j < n
              · rw [decide_eq_true e2, decide_eq_true (show j < n + 1 by omega)]
              · rw [decide_eq_false e2, decide_eq_false (show ¬ j < n + 1 by omega)]
    · intro q hI
      obtain ⟨S3, x⟩ := q
      obtain ⟨e1, a3, t, e3, ht8, ht⟩ := hI
      dsimp only at e1 a3 e3
      subst e1
      have hi3 := h.b84 c a3
      have et : t = waS T on lg := tb_ext (fun j => by
        rw [ht j]
        by_cases e2 : j < tNt T 2
        · rw [decide_eq_true e2, Bool.true_and]
        · rw [decide_eq_false e2, Bool.false_and, Nat.testBit_lt_two_pow (Nat.lt_of_lt_of_le hW2 (Nat.pow_le_pow_right (by decide) (by omega)))])
      refine ⟨S3, ?_, a3, by rw [e3, et]⟩
      show Bins_plan_l22 (nI (unS T lg)) S3 (nI (tNt T 2)) = _
      unfold Bins_plan_l22
      rw [show f_Book_toldOf 5 S3 2 = some (nI (tNt T 2)) from c_toldOf hi3.2.2.1.1 (s := 2) (by decide), mb_bd, if_pos (by rw [mb_le (by omega) (by omega)]; omega)]
  · rw [if_neg c]
    exact ⟨S, rfl, h, rfl, c, h7⟩
theorem c_planSize (h : cInv T on lg tn tb pl S) (h9 : ¬ gI S 8 10 = 0) : ∃ v, f_Bins_planSize S = some (nI v) ∧ spFill T on lg v := by
  have hW := wa_lt h.1 on lg
  obtain ⟨-, e6, hv⟩ := h.2.2.2.2.2.2.2.2.2.2.2.1 h9
  obtain ⟨v, e, hm⟩ := hv _ hW (sb.rf _)
  refine ⟨v, ?_, hm⟩
  unfold f_Bins_planSize
  rw [e6, nI_255 hW, mb_in hW (by decide), mb_gd, mb_cl (by omega), e]
theorem cc_fill (h : cInv T on lg tn tb pl S) : ∃ S' v, f_Lots_fill S = some (nI v, S') ∧ cInv T on lg tn tb pl S' ∧ Ph S + kMark S ≤ Ph S' ∧ spFill T on lg v := by
  obtain ⟨S1, h1, hi, hf, h14, h7, hp⟩ := c_lotsBins h
  obtain ⟨S2, h2, hi2, eN, h9, h72⟩ := c_plan hi h14 h7
  obtain ⟨v, h3, hv⟩ := c_planSize hi2 h9
  refine ⟨S2, v, ?_, hi2, ?_, hv⟩
  · unfold f_Lots_fill
    rw [h1, mb_bd, h2, mb_bd, h3, mb_bd]
  · unfold Ph at hp ⊢
    rw [eN]
    exact hp
/-- one step of the road -/
theorem c_leastStep (h : cInv T on lg tn tb pl S) (h9 : ¬ gI S 8 10 = 0) {v k R a0 g : Nat} (hv : v ≤ 8) (hk : k < v) (hgr : grI (bq T on) (lwS T on).length v (waS T on lg) k R a0) (hg : lsP (stP (bq T on) (lwS T on).length (v - k - 1) R) g) : ∃ a, a < 256 ∧ f_Bins_leastStep S (nI R) = some (nI a) ∧ gA S 8 1 a = nI (bq T on g) ∧ gA S 8 2 a = nI g := by
  have hw := h.1
  have hlen := lwS_len hw on
  have hW := wa_lt hw on lg
  obtain ⟨h7, e6, hF⟩ := h.2.2.2.2.2.2.2.2.2.2.2.1 h9
  obtain ⟨-, m, fk, hm8, em, hSN, hrow⟩ := h.2.2.2.2.2.2.2.2.2.1 h7
  obtain ⟨g1, g2, g3, g4, -⟩ := hgr
  have hR : R < 256 := Nat.lt_of_le_of_lt (sb_le g2) hW
  have g4 := g4 hk
  -- what the table holds of R
  have hFR : gA S 8 5 R - 1 = nI (v - k - 1) := by
    obtain ⟨u, e, hm⟩ := hF R hR g2
    have hu : u = v - k := by
      have l1 : u ≤ v - k := (hm.2 (v - k) (by omega)).1 g3
      rcases Nat.lt_or_ge u (v - k) with z | z
      · exact absurd ((hm.2 (v - k - 1) (by omega)).2 (by omega)) g4
      · omega
    rw [e, hu, show v - k = (v - k - 1) + 1 by omega, ← nI_1, Int32.add_sub_cancel]
    rfl
  have hFd : ∀ m, m < 256 → (gA S 8 5 (df R m) = nI (v - k - 1)) = cvA (bq T on) (lwS T on).length (v - k - 1) (df R m) ∨ ¬ ∃ j, j < (lwS T on).length ∧ bq T on j = m := by
    intro m hm8
    by_cases hex : ∃ j, j < (lwS T on).length ∧ bq T on j = m
    · left
      obtain ⟨j, hj, ej⟩ := hex
      have hd8 := df_le8 m hR
      obtain ⟨u, e, hm⟩ := hF _ hd8 ((sb_df R m).tr g2)
      have hu9 := hm.1
      rw [e, mb_eq (by omega) (by omega)]
      refine propext ⟨fun z => (hm.2 (v - k - 1) (by omega)).2 (by omega), fun z => ?_⟩
      have l1 := (hm.2 (v - k - 1) (by omega)).1 z
      rcases Nat.lt_or_ge u (v - k - 1) with y | y
      · exfalso
        refine g4 (cv_up (show u + 1 ≤ v - k - 1 by omega) (Or.inr ⟨j, hj, ?_⟩))
        rw [ej]
        exact (hm.2 u (by omega)).2 (Nat.le_refl u)
      · omega
    · right
      exact hex
  obtain ⟨i0, hi0, hle, heq⟩ := hSN.2.2 g hg.1.1
  have hst0 : stP (bq T on) (lwS T on).length (v - k - 1) R (fk i0) := ⟨hSN.1 i0 hi0, by rw [heq]; exact hg.1.2⟩
  have hfg : fk i0 = g := by
    rcases Nat.lt_or_ge (fk i0) g with y | y
    · exact absurd hst0 (hg.2 _ y)
    · omega
  have step : ∀ i, i < m → Bins_leastStep_l15 S (nI R) (nI (v - k - 1)) (nI i) = (if gA S 8 5 (df R (bq T on (fk i))) = nI (v - k - 1) then some (.inr (nI i)) else some (.inl (nI (i + 1)))) := by
    intro i hi
    have hb8 := bq_lt hw on (fk i)
    have hd8 := df_le8 (bq T on (fk i)) hR
    unfold Bins_leastStep_l15
    rw [em, if_neg (by rw [mb_le (by omega) (by omega)]; omega), if_neg (by rw [l256, mb_le (by omega) (by omega)]; omega), mb_in (show i < 256 by omega) (by decide), mb_gd, mb_cl (show i < 2147483648 by omega), (hrow i hi).1, df_I hR hb8, nI_255 hd8, mb_in hd8 (by decide), mb_gd, mb_cl (show df R (bq T on (fk i)) < 2147483648 by omega), mb_nm, nI_1]
  have hcd : ∀ i, i < m → (gA S 8 5 (df R (bq T on (fk i))) = nI (v - k - 1)) = cvA (bq T on) (lwS T on).length (v - k - 1) (df R (bq T on (fk i))) := fun i hi => (hFd _ (bq_lt hw on (fk i))).resolve_right (fun z => z ⟨fk i, hSN.1 i hi, rfl⟩)
  have key := wh_ix (f := Bins_leastStep_l15 S (nI R) (nI (v - k - 1))) (s := (0 : Int32)) i0 (fun i q => q = nI i) (fun r => r = nI i0) rfl ?_ ?_
  · obtain ⟨r, h1, e⟩ := key
    refine ⟨i0, by omega, ?_, ?_, ?_⟩
    · unfold f_Bins_leastStep
      rw [nI_255 hR, mb_in hR (by decide), mb_gd, mb_nm, mb_cl (by omega), hFR, h1, e]
    · rw [(hrow i0 hi0).1, heq]
    · rw [(hrow i0 hi0).2, hfg]
  · intro i q hi hI
    subst hI
    left
    have hlt := (hSN.2.1 i i0 hi hi0).1
    have hno : ¬ cvA (bq T on) (lwS T on).length (v - k - 1) (df R (bq T on (fk i))) := fun z => hg.2 (fk i) (by omega) ⟨hSN.1 i (by omega), z⟩
    rw [step i (by omega), if_neg (by rw [hcd i (by omega)]; exact hno)]
    exact ⟨_, rfl, rfl⟩
  · intro q hI
    subst hI
    rw [step i0 hi0, if_pos (by rw [hcd i0 hi0]; exact hst0.2)]
    exact ⟨_, rfl, rfl⟩
theorem c_planMember (h : cInv T on lg tn tb pl S) (h9 : ¬ gI S 8 10 = 0) (x : Int32) : ∃ r, f_Bins_planMember S x = some r ∧ spFills T on lg x r := by
  have hw := h.1
  have hW := wa_lt hw on lg
  obtain ⟨-, e6, -⟩ := h.2.2.2.2.2.2.2.2.2.2.2.1 h9
  obtain ⟨v, h3, hv⟩ := c_planSize h h9
  have h8 := fi_8 hw hv
  unfold f_Bins_planMember Bins_planMember_j12
  rw [h3, mb_bd]
  cases hx : ixN x v with
  | none =>
    refine ⟨-1, ?_, v, hv, by rw [hx]⟩
    rcases ixN_n hx with q | ⟨q, r⟩
    · rw [if_pos q]
    · rw [if_neg q, if_neg (fun z => absurd (Int32.lt_of_lt_of_le z r) Int32.lt_irrefl)]
  | some i =>
    obtain ⟨k1, rfl, q, r⟩ := ixN_s (by omega) hx
    rw [if_neg q, if_pos (by rw [mb_lt (by omega) (by omega)]; exact k1), mb_nm, e6]
    have key := wh_ix (f := un3 (Bins_planMember_l24 S (nI i))) (s := (nI (waS T on lg), (-1 : Int32), (0 : Int32))) (i + 1) (fun k q => q.2.2 = nI k ∧ ∃ R a0, q.1 = nI R ∧ grI (bq T on) (lwS T on).length v (waS T on lg) k R a0 ∧ (k = i + 1 → ∃ R0 g, gr (bq T on) (lwS T on).length v (waS T on lg) i R0 ∧ lsP (stP (bq T on) (lwS T on).length (v - i - 1) R0) g ∧ q.2.1 = nI g)) (fun r => ∃ R0 g, gr (bq T on) (lwS T on).length v (waS T on lg) i R0 ∧ lsP (stP (bq T on) (lwS T on).length (v - i - 1) R0) g ∧ r = nI g) ⟨rfl, waS T on lg, 0, rfl, fi_gr hw hv, fun e => absurd e (by omega)⟩ ?_ ?_
    · obtain ⟨r, h4, R0, g, g1, g2, g3⟩ := key
      refine ⟨nI g, ?_, v, hv, by rw [hx]; exact ⟨R0, g, g1, g2, rfl⟩⟩
      unfold Bins_planMember_j70
      rw [h4, mb_bd, g3]
    · intro k q hk hI
      obtain ⟨x2, x3, x4⟩ := q
      obtain ⟨e1, R, a0, e2, hgr, -⟩ := hI
      dsimp only at e1 e2
      subst e1 e2
      obtain ⟨g, s1, s2, s3, s4, s5, s6⟩ := hgr.s (show k < v by omega)
      obtain ⟨a, ha, t1, t2, t3⟩ := c_leastStep h h9 h8 (show k < v by omega) hgr s1
      have hR8 : R < 256 := Nat.lt_of_le_of_lt (sb_le hgr.2.1) hW
      left
      refine ⟨(nI (df R (bq T on g)), nI g, nI (k + 1)), ?_, rfl, _, _, rfl, s6, fun e => ?_⟩
      · show Bins_planMember_l24 S (nI i) (nI R) x3 (nI k) = _
        unfold Bins_planMember_l24
        rw [if_neg (by rw [mb_lt (by omega) (by omega)]; omega), if_neg (by rw [l8, mb_le (by omega) (by omega)]; omega), t1, mb_bd, mb_in ha (by decide), mb_gd, mb_nm, mb_gd, mb_nm, mb_nm, mb_cl (by omega), t2, t3, df_I hR8 (bq_lt hw on g), nI_1]
      · have ek : k = i := by omega
        subst ek
        exact ⟨R, g, hgr.1, s1, rfl⟩
    · intro q hI
      obtain ⟨x2, x3, x4⟩ := q
      obtain ⟨e1, R, a0, e2, hgr, hz⟩ := hI
      dsimp only at e1 e2 hz
      subst e1 e2
      refine ⟨x3, ?_, hz rfl⟩
      show Bins_planMember_l24 S (nI i) (nI R) x3 (nI (i + 1)) = _
      unfold Bins_planMember_l24
      rw [if_pos (by rw [mb_lt (by omega) (by omega)]; omega)]
theorem cc_fills (h : cInv T on lg tn tb pl S) (x : Int32) : ∃ S' r, f_Lots_fills S x = some (r, S') ∧ cInv T on lg tn tb pl S' ∧ Ph S + kMark S ≤ Ph S' ∧ spFills T on lg x r := by
  obtain ⟨S1, h1, hi, hf, h14, h7, hp⟩ := c_lotsBins h
  obtain ⟨S2, h2, hi2, eN, h9, h72⟩ := c_plan hi h14 h7
  obtain ⟨r, h3, hv⟩ := c_planMember hi2 h9 x
  refine ⟨S2, r, ?_, hi2, ?_, hv⟩
  · unfold f_Lots_fills
    rw [h1, mb_bd, h2, mb_bd, h3, mb_bd]
  · unfold Ph at hp ⊢
    rw [eN]
    exact hp
