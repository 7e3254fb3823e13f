/-! the reference reads: its small steps -/
def paI : List Nat := [11, 12, 13, 14, 15, 16, 38, 41, 43]
def paA : List Nat := [20, 22, 23, 25, 26, 27, 28, 29, 30, 31, 32, 33, 34, 35, 36, 37, 39, 40, 42]
def paB : List Nat := [21]
def FR (lv : Nat) (M M' : St) : Prop := agZ paI paA paB M M' ∧ agT lv M M'
theorem FR.rf (lv : Nat) (M : St) : FR lv M M := ⟨agZ.rf M, rfl, fun _ _ _ _ => rfl⟩
theorem FR.tr {lv : Nat} {A B C : St} (h1 : FR lv A B) (h2 : FR lv B C) : FR lv A C := ⟨h1.1.tr h2.1, h1.2.tr h2.2⟩
theorem FR.zI (lv : Nat) (M : St) (k : Nat) (x : Int32) (hk : k ∈ paI) (h18 : ¬ k = 18) : FR lv M (pI M 0 k x) := ⟨agZ.pI M k x hk, gI_n _ _ (fun z => h18 z.2.symm), fun _ _ _ _ => rfl⟩
theorem FR.zL (lv : Nat) (M : St) (k : Nat) (x : Int64) : FR lv M (pL M 0 k x) := ⟨⟨fun _ _ => rfl, fun _ _ => rfl, fun _ _ => rfl⟩, rfl, fun _ _ _ _ => rfl⟩
theorem FR.zB (lv : Nat) (M : St) (k j : Nat) (x : Int64) (hk : k ∈ paB) : FR lv M (pB M 0 k j x) := ⟨agZ.pB M k j x hk, rfl, fun _ _ _ _ => rfl⟩
theorem tW_un : ∀ q ∈ tW, ∀ p ∈ tW, q.1 = p.1 → q = p := by decide
theorem FR.zA {lv : Nat} (hlv : lv < 2) (M : St) (k w i : Nat) (x : Int32) (hk : (k, w) ∈ tW) (hk2 : k ∈ paA) (hi : i < w) {j : Nat} (hj : j = w * (1 - lv) + i) : FR lv M (pA M 0 k j x) := by
  refine ⟨agZ.pA M k j x hk2, rfl, fun q hq i' hi' => ?_⟩
  rw [mb_AA, if_neg]
  intro z
  have e := tW_un q hq (k, w) hk z.2.1
  subst e
  have z2 : w * lv + i' = j := z.2.2
  have hi' : i' < w := hi'
  rw [hj] at z2
  rcases (show lv = 0 ∨ lv = 1 by omega) with rfl | rfl
  · simp only [Nat.mul_zero, Nat.sub_zero, Nat.mul_one] at z2
    omega
  · simp only [Nat.mul_one, Nat.sub_self, Nat.mul_zero] at z2
    omega
theorem FR.zA2 (lv : Nat) (M : St) (k j : Nat) (x : Int32) (hk : k = 31 ∨ k = 42) : FR lv M (pA M 0 k j x) := by
  refine ⟨agZ.pA M k j x (by rcases hk with rfl | rfl <;> decide), rfl, fun q hq i' hi' => ?_⟩
  rw [mb_AA, if_neg]
  intro z
  have hn : ∀ q ∈ tW, ¬ q.1 = 31 ∧ ¬ q.1 = 42 := by decide
  have := hn q hq
  rcases hk with rfl | rfl
  · exact this.1 z.2.1
  · exact this.2 z.2.1
variable {v : Nat → Nat} {n lv : Nat} {M0 M M' : St} {T : Tx} {nN : Nat → List Nat} {pd mf mp ec lc ne so k f p : Nat}
theorem FR.i (h : FR lv M M') (k : Nat) (hk : k ∉ paI) : gI M' 0 k = gI M 0 k := h.1.1 k hk
theorem FR.a (h : FR lv M M') (k : Nat) (hk : k ∉ paA) : gA M' 0 k = gA M 0 k := h.1.2.1 k hk
theorem FR.b (h : FR lv M M') (k : Nat) (hk : k ∉ paB) : gB M' 0 k = gB M 0 k := h.1.2.2 k hk
/-- what is fixed from the start -/
def TK0 (v : Nat → Nat) (n lv : Nat) (M0 : St) : Prop := lv < 2 ∧ n ≤ 2000 ∧ gI M0 0 19 = nI (1 - lv) ∧ ∀ i, i ≤ 400 → (∀ j, j < i → ¬ tK v n j = 0) → TKS v n M0 i
/-- a fault of SYNTAX or ROOM is there -/
def FM (lv : Nat) (M0 : St) (f p : Nat) (M : St) : Prop := FR lv M0 M ∧ (f = 1 ∨ f = 2) ∧ gI M 0 13 = nI f ∧ gI M 0 14 = nI p ∧ ∃ k, k ≤ 400 ∧ gI M 0 11 = nI k
/-- no fault yet; the token is k -/
def RA (v : Nat → Nat) (n lv : Nat) (M0 : St) (k : Nat) (M : St) : Prop := FR lv M0 M ∧ gI M 0 13 = 0 ∧ gI M 0 11 = nI k ∧ k ≤ 400 ∧ ∀ j, j < k → ¬ tK v n j = 0
theorem mk_inj : ∀ a, a < 27 → ∀ b, b < 27 → mk a = mk b → a = b := by decide
theorem mk_lt27 : ∀ a, a < 27 → mk a < 33 := by decide
theorem RA.tok (h : RA v n lv M0 k M) (h0 : TK0 v n lv M0) : gA M 0 5 k = nI (mk (tK v n k)) ∧ gA M 0 6 k = nI (tP v n k) ∧ (tK v n k = 3 → gA M 0 7 k = nI (tN v n k)) ∧ (tK v n k = 2 → gB M 0 8 k = lN (encM (tWd v n k))) := by
  have := h0.2.2.2 k h.2.2.2.1 h.2.2.2.2
  unfold TKS at this
  rw [h.1.a 5 (by decide), h.1.a 6 (by decide), h.1.a 7 (by decide), h.1.b 8 (by decide)]
  exact this
theorem r_is (h : RA v n lv M0 k M) (h0 : TK0 v n lv M0) {x : Nat} (hx : x < 27) : f_Model_is M (nI (mk x)) = some (b2i (Nat.beq (tK v n k) x)) := by
  have ht := (tK_lt (v := v) (n := n) k).1
  have h1 := mk_lt27 _ ht
  have h2 := mk_lt27 _ hx
  have hk := h.2.2.2.1
  unfold f_Model_is Model_is_j24 Model_is_j25
  rw [if_pos h.2.1, h.2.2.1, mb_in (by omega) (by decide), mb_gd, mb_cl (by omega), (h.tok h0).1, isB1, isB0, mb_gd, mb_gd]
  by_cases c : tK v n k = x
  · rw [if_pos (by rw [c]), c, Nat.beq_refl]
    rfl
  · rw [if_neg (by rw [mb_eq (by omega) (by omega)]; exact fun z => c (mk_inj _ ht _ hx z))]
    cases hb : Nat.beq (tK v n k) x with
    | true => exact absurd (Nat.eq_of_beq_eq_true hb) c
    | false => rfl
theorem r_fail (h : RA v n lv M0 k M) (h0 : TK0 v n lv M0) (hf : f = 1 ∨ f = 2) : ∃ M', f_Model_fail M (nI f) = some M' ∧ FM lv M0 f (tP v n k) M' ∧ agZ [13, 14] [] [] M M' ∧ gL M' = gL M := by
  have hk := h.2.2.2.1
  unfold f_Model_fail
  rw [h.2.1, if_pos (by decide), mb_nm, gI_n _ _ (fun z => by omega), h.2.2.1, mb_in (by omega) (by decide), mb_gd, mb_cl (by omega), mb_AI, (h.tok h0).2.1, mb_nm]
  have a : FR lv M (pI (pI M 0 13 (nI f)) 0 14 (nI (tP v n k))) := (FR.zI lv M 13 _ (by decide) (by decide)).tr (FR.zI lv _ 14 _ (by decide) (by decide))
  exact ⟨_, rfl, ⟨h.1.tr a, hf, by rw [gI_n _ _ (fun z => by omega), gI_s], gI_s _ _ _ _, k, hk, by rw [gI_n _ _ (fun z => by omega), gI_n _ _ (fun z => by omega)]; exact h.2.2.1⟩, (agZ.pI M 13 _ (by decide)).tr (agZ.pI _ 14 _ (by decide)), rfl⟩
/-- on to the next token; at the 401st there is no room -/
theorem r_next (h : RA v n lv M0 k M) (h0 : TK0 v n lv M0) (hz : ¬ tK v n k = 0) : (k = 400 ∧ ∃ M', f_Model_next M = some M' ∧ FM lv M0 2 (tP v n k) M') ∨ (k < 400 ∧ f_Model_next M = some (pI M 0 11 (nI (k + 1))) ∧ RA v n lv M0 (k + 1) (pI M 0 11 (nI (k + 1)))) := by
  have hk := h.2.2.2.1
  unfold f_Model_next Model_next_j28
  rw [h.2.2.1, show (400 : Int32) = nI 400 from rfl]
  by_cases c : k = 400
  · left
    obtain ⟨M', g1, f1, -⟩ := r_fail h h0 (f := 2) (Or.inr rfl)
    rw [if_pos (by rw [c]), show f_Model_fail M 2 = _ from g1, mb_bd]
    exact ⟨c, M', rfl, f1⟩
  · right
    rw [if_neg (by rw [mb_eq (by omega) (by omega)]; exact c), mb_nm, nI_1]
    refine ⟨by omega, rfl, h.1.tr (FR.zI lv M 11 _ (by decide) (by decide)), by rw [gI_n _ _ (fun z => by omega)]; exact h.2.1, gI_s _ _ _ _, by omega, fun j hj => ?_⟩
    by_cases e : j = k
    · rw [e]; exact hz
    · exact h.2.2.2.2 j (by omega)
/-! once a fault is there -/
theorem FM.nz (h : FM lv M0 f p M) : ¬ gI M 0 13 = 0 ∧ ¬ gI M 0 13 ≤ 0 := by
  obtain ⟨-, hf, e, -⟩ := h
  rw [e]
  rcases hf with rfl | rfl <;> decide
theorem FM.mv {M' : St} (h : FM lv M0 f p M) (a : FR lv M M') (h13 : gI M' 0 13 = gI M 0 13) (h14 : gI M' 0 14 = gI M 0 14) (h11 : gI M' 0 11 = gI M 0 11) : FM lv M0 f p M' := by
  obtain ⟨q1, q2, q3, q4, k, q5, q6⟩ := h
  exact ⟨q1.tr a, q2, by rw [h13]; exact q3, by rw [h14]; exact q4, k, q5, by rw [h11]; exact q6⟩
theorem f_is (h : FM lv M0 f p M) (x : Int32) : f_Model_is M x = some 0 := by
  unfold f_Model_is Model_is_j24 Model_is_j25
  rw [if_neg h.nz.1, isB0, mb_gd]
theorem f_fail (h : FM lv M0 f p M) (x : Int32) : f_Model_fail M x = some M := by
  unfold f_Model_fail
  rw [if_neg h.nz.2]
theorem f_next (h : FM lv M0 f p M) : ∃ M', f_Model_next M = some M' ∧ FM lv M0 f p M' ∧ agZ [11] [] [] M M' := by
  obtain ⟨q1, q2, q3, q4, k, q5, q6⟩ := id h
  unfold f_Model_next Model_next_j28
  rw [q6, show (400 : Int32) = nI 400 from rfl, f_fail h, mb_bd]
  by_cases c : k = 400
  · rw [if_pos (by rw [c])]
    exact ⟨M, rfl, h, agZ.rf M⟩
  · rw [if_neg (by rw [mb_eq (by omega) (by omega)]; exact c), mb_nm, nI_1]
    exact ⟨_, rfl, ⟨q1.tr (FR.zI lv M 11 _ (by decide) (by decide)), q2, by rw [gI_n _ _ (fun z => by omega)]; exact q3, by rw [gI_n _ _ (fun z => by omega)]; exact q4, k + 1, by omega, gI_s _ _ _ _⟩, agZ.pI M 11 _ (by decide)⟩
theorem f_must (h : FM lv M0 f p M) (x : Int32) : f_Model_must M x = some M := by
  unfold f_Model_must Model_must_j20
  rw [f_is h, mb_bd, if_pos rfl, f_fail h, mb_bd]
theorem f_expr (h : FM lv M0 f p M) : ∃ M', f_Model_expression M = some M' ∧ FM lv M0 f p M' ∧ agZ [43] [] [] M M' := by
  have a : FR lv M (pI M 0 43 0) := FR.zI lv M 43 _ (by decide) (by decide)
  have h1 : FM lv M0 f p (pI M 0 43 0) := h.mv a (gI_n _ _ (fun z => by omega)) (gI_n _ _ (fun z => by omega)) (gI_n _ _ (fun z => by omega))
  refine ⟨pI M 0 43 0, ?_, h1, agZ.pI M 43 _ (by decide)⟩
  unfold f_Model_expression
  rw [mb_nm, mb_nm]
  refine wh_inr ?_
  show Model_expression_l12 _ (pI M 0 43 0) 1 = _
  unfold Model_expression_l12 Model_expression_j253_l12
  rw [if_neg (by decide), if_neg h1.nz.1]
theorem f_lit (h : FM lv M0 f p M) (x : Int32) : ∃ M', f_Model_literal M x = some M' ∧ FM lv M0 f p M' ∧ agZ [11, 43] [] [] M M' := by
  obtain ⟨M1, g1, h1, a1⟩ := f_expr h
  obtain ⟨M2, g2, h2, a2⟩ := f_next h1
  obtain ⟨M3, g3, h3, a3⟩ := f_expr h2
  refine ⟨M3, ?_, h3, ((a1.wk (by decide) (by decide) (by decide)).tr (a2.wk (by decide) (by decide) (by decide))).tr (a3.wk (by decide) (by decide) (by decide))⟩
  unfold f_Model_literal
  have hl : wh (un2 (Model_literal_l2 x)) (M, (0 : Int32)) = some (M, 0) := wh_inr (by
    show Model_literal_l2 x M 0 = _
    unfold Model_literal_l2
    rw [f_is h, mb_bd, if_pos rfl])
  rw [hl, mb_bd2, mb_nm, g1, mb_bd, if_neg h1.nz.2]
  unfold Model_literal_j59 Model_literal_j84
  rw [if_neg h1.nz.1, g2, mb_bd, mb_nm, g3, mb_bd, if_neg h3.nz.2]
theorem f_tell347 (h : FM lv M0 f p M) (x1 x2 : Int32) : Model_tell_j347 M x1 x2 = some M := by
  unfold Model_tell_j347
  rw [f_must h, mb_bd, if_neg h.nz.2]
theorem f_tell288 (h : FM lv M0 f p M) (x1 x2 x3 : Int32) : Model_tell_j288 M x1 x2 x3 = some M := by
  unfold Model_tell_j288
  have hl : wh (un3 (Model_tell_l291 x1 x2)) (M, x3, (1 : Int32)) = some M := wh_inr (by
    show Model_tell_l291 x1 x2 M x3 1 = _
    unfold Model_tell_l291
    by_cases c : x3 = 0
    · rw [if_pos c]
    · rw [if_neg c, if_neg h.nz.1])
  rw [hl, mb_bd, f_tell347 h]
theorem f_tell267 (h : FM lv M0 f p M) (x1 x2 x3 : Int32) : Model_tell_j267 M x1 x2 x3 = some M := by
  unfold Model_tell_j267
  rw [f_is h, mb_bd, if_pos rfl, f_tell288 h]
theorem f_tell232 (hlv : lv < 2) (h0 : gI M0 0 19 = nI (1 - lv)) (h : FM lv M0 f p M) (x1 : Int32) {c : Nat} (hc : c < 40) : ∃ M', Model_tell_j232 M x1 (nI (40 * (1 - lv) + c)) = some M' ∧ FM lv M0 f p M' := by
  have e19 : gI M 0 19 = nI (1 - lv) := by rw [h.1.i 19 (by decide)]; exact h0
  have h1 : FM lv M0 f p (pA M 0 30 (40 * (1 - lv) + c) (gI M 0 38)) := h.mv (FR.zA hlv M 30 40 c _ (by decide) (by decide) hc rfl) rfl rfl rfl
  have h2 : ∀ y, FM lv M0 f p (pA (pA M 0 30 (40 * (1 - lv) + c) (gI M 0 38)) 0 27 (40 * (1 - lv) + c) y) := fun y => h1.mv (FR.zA hlv _ 27 40 c _ (by decide) (by decide) hc rfl) rfl rfl rfl
  unfold Model_tell_j232
  rw [mb_in (by omega) (by decide), mb_gd, mb_nm, mb_IA, e19, mb_in (by omega) (by decide), mb_gd, mb_gd, mb_nm, mb_cl (by omega), f_tell267 (h2 _), f_tell267 (h2 _)]
  by_cases z : x1 = 4
  · rw [if_pos z]; exact ⟨_, rfl, h2 _⟩
  · rw [if_neg z]; exact ⟨_, rfl, h2 _⟩
theorem f_tell223 (hlv : lv < 2) (h0 : gI M0 0 19 = nI (1 - lv)) (h : FM lv M0 f p M) (x1 : Int32) {c : Nat} (hc : c < 40) : ∃ M', Model_tell_j223 M x1 (nI (40 * (1 - lv) + c)) = some M' ∧ FM lv M0 f p M' := by
  unfold Model_tell_j223
  by_cases z : x1 = 4
  · obtain ⟨M1, g1, h1, -⟩ := f_expr h
    rw [if_pos z, g1, mb_bd]
    exact f_tell232 hlv h0 h1 x1 hc
  · rw [if_neg z]
    exact f_tell232 hlv h0 h x1 hc
theorem f_tell217 (hlv : lv < 2) (h0 : gI M0 0 19 = nI (1 - lv)) (h : FM lv M0 f p M) (x1 y : Int32) {c : Nat} (hc : c < 40) : ∃ M', Model_tell_j217 M x1 (nI (40 * (1 - lv) + c)) (nI (40 * (1 - lv) + c)) y = some M' ∧ FM lv M0 f p M' := by
  have h1 : FM lv M0 f p (pA M 0 26 (40 * (1 - lv) + c) y) := h.mv (FR.zA hlv M 26 40 c _ (by decide) (by decide) hc rfl) rfl rfl rfl
  unfold Model_tell_j217
  rw [mb_in (by omega) (by decide), mb_gd, mb_nm, mb_cl (by omega), f_must h1, mb_bd]
  exact f_tell223 hlv h0 h1 x1 hc
theorem f_tell166 (hlv : lv < 2) (h0 : gI M0 0 19 = nI (1 - lv)) (h : FM lv M0 f p M) (x1 t : Int32) (ht : isB t = true) {c : Nat} (hc : c < 40) : ∃ M', Model_tell_j166 M x1 (nI (40 * (1 - lv) + c)) t = some M' ∧ FM lv M0 f p M' := by
  have h1 : FM lv M0 f p (pI M 0 41 t) := h.mv (FR.zI lv M 41 _ (by decide) (by decide)) (gI_n _ _ (fun z => by omega)) (gI_n _ _ (fun z => by omega)) (gI_n _ _ (fun z => by omega))
  have h2 : FM lv M0 f p (pA (pI M 0 41 t) 0 26 (40 * (1 - lv) + c) 0) := h1.mv (FR.zA hlv _ 26 40 c _ (by decide) (by decide) hc rfl) rfl rfl rfl
  have h3 : ∀ y, FM lv M0 f p (pA (pA (pI M 0 41 t) 0 26 (40 * (1 - lv) + c) 0) 0 29 (40 * (1 - lv) + c) y) := fun y => h2.mv (FR.zA hlv _ 29 40 c _ (by decide) (by decide) hc rfl) rfl rfl rfl
  unfold Model_tell_j166
  rw [ht, mb_gd, mb_nm, mb_in (by omega) (by decide), mb_gd, mb_nm, mb_gd, mb_nm, mb_cl (by omega)]
  by_cases z : x1 = 1
  · rw [if_pos z, f_is (h3 _), mb_bd, if_pos rfl]
    exact f_tell217 hlv h0 (h3 _) x1 0 hc
  · rw [if_neg z]
    exact f_tell223 hlv h0 (h3 _) x1 hc
theorem f_field98 (h : FM lv M0 f p M) (x1 x2 x3 t : Int32) : Model_tellField_j98 M x1 x2 x3 t = some M := by
  unfold Model_tellField_j98
  rw [f_must h, mb_bd, f_must h, mb_bd, if_neg h.nz.2]
theorem f_field60 (h : FM lv M0 f p M) (x1 t : Int32) : Model_tellField_j60 M x1 t = some M := by
  unfold Model_tellField_j60
  rw [f_must h, mb_bd, f_must h, mb_bd, mb_nm, f_is h, mb_bd, if_pos rfl, f_field98 h]
theorem f_field19 (h : FM lv M0 f p M) : ∃ M', Model_tellField_j19 M = some M' ∧ FM lv M0 f p M' := by
  obtain ⟨M1, g1, h1, -⟩ := f_next h
  unfold Model_tellField_j19
  rw [g1, mb_bd, mb_nm, f_must h1, mb_bd, f_must h1, mb_bd, f_is h1, mb_bd, if_pos rfl, f_field60 h1]
  exact ⟨M1, rfl, h1⟩
/-- must: the token is there, or SYNTAX -/
theorem r_must (h : RA v n lv M0 k M) (h0 : TK0 v n lv M0) {x : Nat} (hx : x < 27) (hx0 : ¬ x = 0) : (¬ tK v n k = x ∧ ∃ M', f_Model_must M (nI (mk x)) = some M' ∧ FM lv M0 1 (tP v n k) M') ∨ (tK v n k = x ∧ k = 400 ∧ ∃ M', f_Model_must M (nI (mk x)) = some M' ∧ FM lv M0 2 (tP v n k) M') ∨ (tK v n k = x ∧ k < 400 ∧ f_Model_must M (nI (mk x)) = some (pI M 0 11 (nI (k + 1))) ∧ RA v n lv M0 (k + 1) (pI M 0 11 (nI (k + 1)))) := by
  unfold f_Model_must Model_must_j20
  rw [r_is h h0 hx, mb_bd]
  by_cases c : tK v n k = x
  · right
    rw [c, Nat.beq_refl, if_neg (by decide)]
    rcases r_next h h0 (by rw [c]; exact hx0) with ⟨e, M', g1, f1⟩ | ⟨e, g1, r1⟩
    · left
      rw [g1, mb_bd]
      exact ⟨rfl, e, M', rfl, f1⟩
    · right
      rw [g1, mb_bd]
      exact ⟨rfl, e, rfl, r1⟩
  · left
    obtain ⟨M', g1, f1, -⟩ := r_fail h h0 (f := 1) (Or.inl rfl)
    have hb : Nat.beq (tK v n k) x = false := by
      cases hb : Nat.beq (tK v n k) x with
      | true => exact absurd (Nat.eq_of_beq_eq_true hb) c
      | false => rfl
    rw [hb, if_pos (by rfl), show f_Model_fail M 1 = _ from g1, mb_bd]
    exact ⟨c, M', rfl, f1⟩
/-- faults of meaning -/
theorem r_wrong (h : RA v n lv M0 k M) (h0 : TK0 v n lv M0) (h15 : gI M 0 15 = nI mf) (h16 : ¬ mf = 0 → gI M 0 16 = nI mp) (hm : mf ≤ 6) (hm2 : mp ≤ 2000) (hf : f ≤ 6) {q : Nat} (hq : q ≤ k) : ∃ M', f_Model_wrong M (nI f) (nI q) = some M' ∧ agZ [15, 16] [] [] M M' ∧ gL M' = gL M ∧ RA v n lv M0 k M' ∧ gI M' 0 15 = nI (blN f (tP v n q) mf mp).1 ∧ (¬ (blN f (tP v n q) mf mp).1 = 0 → gI M' 0 16 = nI (blN f (tP v n q) mf mp).2) := by
  have hk := h.2.2.2.1
  have hp : tP v n q ≤ 2000 := Nat.le_trans (tP_le q) h0.2.1
  have ht : gA M 0 6 q = nI (tP v n q) := by
    have := h0.2.2.2 q (by omega) (fun j hj => h.2.2.2.2 j (by omega))
    rw [h.1.a 6 (by decide)]
    exact this.2.1
  have put : ∃ M', Model_wrong_j46 M (nI f) (nI (tP v n q)) = some M' ∧ agZ [15, 16] [] [] M M' ∧ gL M' = gL M ∧ RA v n lv M0 k M' ∧ gI M' 0 15 = nI f ∧ gI M' 0 16 = nI (tP v n q) := by
    unfold Model_wrong_j46
    rw [mb_nm, mb_nm]
    have a : FR lv M (pI (pI M 0 15 (nI f)) 0 16 (nI (tP v n q))) := (FR.zI lv M 15 _ (by decide) (by decide)).tr (FR.zI lv _ 16 _ (by decide) (by decide))
    exact ⟨_, rfl, (agZ.pI M 15 _ (by decide)).tr (agZ.pI _ 16 _ (by decide)), rfl, ⟨h.1.tr a, by rw [gI_n _ _ (fun z => by omega), gI_n _ _ (fun z => by omega)]; exact h.2.1, by rw [gI_n _ _ (fun z => by omega), gI_n _ _ (fun z => by omega)]; exact h.2.2.1, hk, h.2.2.2.2⟩, by rw [gI_n _ _ (fun z => by omega), gI_s], gI_s _ _ _ _⟩
  obtain ⟨M1, g1, b1, b1l, b2, b3, b4⟩ := put
  have keep : gI M 0 15 = nI mf → ∃ M', Model_wrong_j45 M = some M' ∧ agZ [15, 16] [] [] M M' ∧ gL M' = gL M ∧ RA v n lv M0 k M' ∧ gI M' 0 15 = nI mf ∧ (¬ mf = 0 → gI M' 0 16 = nI mp) := fun z => ⟨M, rfl, agZ.rf M, rfl, h, z, h16⟩
  unfold f_Model_wrong blN
  rw [mb_in (by omega) (by decide), mb_gd, mb_nm, mb_cl (by omega), ht, h.2.1, if_neg (show ¬ (0 : Int32) < 0 by decide), h15]
  by_cases c1 : mf = 0
  · rw [if_pos (by rw [c1]; rfl), if_pos c1]
    exact ⟨M1, g1, b1, b1l, b2, b3, fun _ => b4⟩
  rw [if_neg (by rw [l0, mb_eq (by omega) (by omega)]; exact c1), if_neg c1, h16 c1]
  by_cases c2 : tP v n q < mp
  · rw [if_neg (by rw [mb_lt (by omega) (by omega)]; omega), if_neg (by rw [mb_eq (by omega) (by omega)]; omega), if_pos c2]
    exact ⟨M1, g1, b1, b1l, b2, b3, fun _ => b4⟩
  rw [if_neg c2]
  by_cases c3 : tP v n q = mp
  · rw [if_neg (by rw [mb_lt (by omega) (by omega)]; omega), if_pos (by rw [c3]), if_pos c3]
    by_cases c4 : f < mf
    · rw [if_pos (by rw [mb_lt (by omega) (by omega)]; exact c4), if_pos c4]
      exact ⟨M1, g1, b1, b1l, b2, b3, fun _ => b4⟩
    · rw [if_neg (by rw [mb_lt (by omega) (by omega)]; exact c4), if_neg c4]
      exact keep h15
  · rw [if_pos (by rw [mb_lt (by omega) (by omega)]; omega), if_neg c3]
    exact keep h15
