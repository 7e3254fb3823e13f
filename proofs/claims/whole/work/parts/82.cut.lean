/-! the reference cuts -/
theorem wh_ms {σ ρ : Type} {f : σ → Option (σ ⊕ ρ)} (μ : σ → Nat) (I : σ → Prop) (post : ρ → Prop) {s : σ} (h0 : I s)
    (hs : ∀ s, I s → (∃ t, f s = some (.inl t) ∧ I t ∧ μ t < μ s) ∨ (∃ r, f s = some (.inr r) ∧ post r)) : ∃ r, wh f s = some r ∧ post r := by
  have key : ∀ (d : Nat) (s : σ), μ s ≤ d → I s → ∃ r, wh f s = some r ∧ post r := by
    intro d
    induction d with
    | zero =>
      intro s hd h
      rcases hs s h with ⟨t, h1, h2, h3⟩ | ⟨r, h1, h2⟩
      · omega
      · exact ⟨r, wh_inr h1, h2⟩
    | succ d ih =>
      intro s hd h
      rcases hs s h with ⟨t, h1, h2, h3⟩ | ⟨r, h1, h2⟩
      · obtain ⟨r, h4, h5⟩ := ih t (by omega) h2
        exact ⟨r, by rw [wh_inl h1]; exact h4, h5⟩
      · exact ⟨r, wh_inr h1, h2⟩
  exact key (μ s) s (Nat.le_refl _) h0
/-- the reference's own numbers of the kinds -/
def mk (k : Nat) : Nat := ([0, 3, 1, 2, 8, 11, 12, 13, 4, 5, 6, 7, 9, 10] : List Nat).getD k (k + 6)
def MXt (v : Nat → Nat) (n : Nat) (M : St) : Prop := n ≤ 2000 ∧ gI M 0 4 = nI n ∧ ∀ j, j < n → gA M 0 3 j = sx (v j) ∧ v j < 256
variable {v : Nat → Nat} {n : Nat} {M M' : St}
theorem mx_at (h : MXt v n M) {p : Nat} (hp : p < 4000) : f_Model_at M (nI p) = some (nI (if p < n then v p else 0)) := by
  have hn := h.1
  unfold f_Model_at Model_at_j22
  rw [h.2.1]
  by_cases c : p < n
  · rw [if_pos c, if_neg (by rw [mb_le (by omega) (by omega)]; omega), mb_in (by omega) (by decide), mb_gd, mb_cl (by omega), (h.2.2 p c).1, sx_255 _ (h.2.2 p c).2]
  · rw [if_neg c, if_pos (by rw [mb_le (by omega) (by omega)]; omega)]
    rfl
theorem mx_c (h : MXt v n M) (p : Nat) : (if p < n then v p else 0) < 256 := by
  by_cases c : p < n
  · rw [if_pos c]; exact (h.2.2 p c).2
  · rw [if_neg c]; decide
/-- the tokens, as the reference holds them -/
def TKS (v : Nat → Nat) (n : Nat) (M : St) (i : Nat) : Prop := gA M 0 5 i = nI (mk (tK v n i)) ∧ gA M 0 6 i = nI (tP v n i) ∧ (tK v n i = 3 → gA M 0 7 i = nI (tN v n i)) ∧ (tK v n i = 2 → gB M 0 8 i = lN (encM (tWd v n i)))
theorem m_token {c : Nat} (hc : c < 403) (h : gI M 0 10 = nI c) (x1 x2 x3 : Int32) (x4 : Int64) : ∃ M', f_Model_token M x1 x2 x3 x4 = some M' ∧ agZ [10] [5, 6, 7] [8] M M' ∧ gI M' 0 10 = nI (c + 1) ∧ (∀ i, i ≠ c → gA M' 0 5 i = gA M 0 5 i ∧ gA M' 0 6 i = gA M 0 6 i ∧ gA M' 0 7 i = gA M 0 7 i ∧ gB M' 0 8 i = gB M 0 8 i) ∧ gA M' 0 5 c = x1 ∧ gA M' 0 6 c = x2 ∧ gA M' 0 7 c = x3 ∧ gB M' 0 8 c = x4 := by
  unfold f_Model_token
  simp only [mb_nm, mb_IA, mb_IB]
  rw [h, mb_in hc (by decide), mb_gd, mb_gd, mb_gd, mb_gd, mb_cl (by omega), nI_1]
  refine ⟨_, rfl, ((((agZ.pA M 5 c x1 (by decide)).tr (agZ.pA _ 6 c x2 (by decide))).tr (agZ.pA _ 7 c x3 (by decide))).tr (agZ.pB _ 8 c x4 (by decide))).tr (agZ.pI _ 10 _ (by decide)), gI_s _ _ _ _, fun i hi => ⟨?_, ?_, ?_, ?_⟩, ?_, ?_, ?_, ?_⟩
  · rw [mb_AI, mb_AB, gA_n _ _ (fun z => by omega), gA_n _ _ (fun z => by omega), gA_n _ _ (fun z => by omega)]
  · rw [mb_AI, mb_AB, gA_n _ _ (fun z => by omega), gA_n _ _ (fun z => by omega), gA_n _ _ (fun z => by omega)]
  · rw [mb_AI, mb_AB, gA_n _ _ (fun z => by omega), gA_n _ _ (fun z => by omega), gA_n _ _ (fun z => by omega)]
  · rw [mb_BI, gB_n _ _ (fun z => by omega)]
    rfl
  · rw [mb_AI, mb_AB, gA_n _ _ (fun z => by omega), gA_n _ _ (fun z => by omega), gA_s]
  · rw [mb_AI, mb_AB, gA_n _ _ (fun z => by omega), gA_s]
  · rw [mb_AI, mb_AB, gA_s]
  · rw [mb_BI, gB_s]
theorem mx_more {w : List Nat} {c : Nat} (hc : isAl c = true) : f_Model_more (lN (encM w)) (nI c) = some (lN (encM (c :: w))) := by
  have h256 := al_256 hc
  have hl := al_lt c h256 hc
  have hne : ¬ nI c = 0 := by rw [l0, mb_eq (by omega) (by omega)]; omega
  unfold f_Model_more Model_more_j36 Model_more_j38
  rw [if_neg hne, nx_di c h256, mb_bd]
  have e : ∀ y : Int32, y.toInt64 = lN (dgM c) → (37 : Int64) * lN (encM w) + y.toInt64 = lN (encM (c :: w)) := by
    intro y hy
    rw [hy, show (37 : Int64) = lN 37 from rfl, lN_mul, lN_add]
    rfl
  have hd : ∀ c, c < 128 → isAl c = true → (cond (isDi c) ((nI c - 48) + 27) ((nI c - 97) + 1)).toInt64 = lN (dgM c) := by decide +kernel
  have hd := hd c hl.2.2.2 hc
  cases hx : isDi c with
  | true =>
    rw [hx] at hd
    rw [if_neg (by decide)]
    exact congrArg some (e _ hd)
  | false =>
    rw [hx] at hd
    rw [if_pos (by rfl)]
    exact congrArg some (e _ hd)
theorem m_name (h : MXt v n M) {p : Nat} (hp : p < n) (hL : isLe (v p) = true) : ∃ r, wh (un2 (Model_cut_l85 M (nI p))) ((0 : Int32), (0 : Int64)) = some r ∧ r.1 = nI (rnE isAl v n p - p) ∧ (rnE isAl v n p - p ≤ 8 → r.2 = lN (encM (chR v p (rnE isAl v n p - p)))) := by
  have hn := h.1
  obtain ⟨q1, q2⟩ := rnE_le (v := v) isAl (Nat.le_of_lt hp)
  refine wh_ix (f := un2 (Model_cut_l85 M (nI p))) (s := ((0 : Int32), (0 : Int64))) (rnE isAl v n p - p) (fun i q => q.1 = nI i ∧ (i ≤ 8 → q.2 = lN (encM (chR v p i)))) (fun r => r.1 = nI (rnE isAl v n p - p) ∧ (rnE isAl v n p - p ≤ 8 → r.2 = lN (encM (chR v p (rnE isAl v n p - p))))) ⟨rfl, fun _ => rfl⟩ ?_ ?_
  · intro i q hi hI
    obtain ⟨x3, x4⟩ := q
    obtain ⟨e1, e2⟩ := hI
    dsimp only at e1 e2
    subst e1
    have hb := rnE_in (P := isAl) (v := v) (n := n) (a := p) (j := p + i) (by omega) (by omega)
    have hx := mx_at h (show p + i < 4000 by omega)
    rw [if_pos (show p + i < n by omega)] at hx
    have h256 := (h.2.2 (p + i) (by omega)).2
    left
    have tail : ∃ y, Model_cut_j111_l85 M (nI p) (nI i) x4 = some (.inl (nI (i + 1), y)) ∧ (i + 1 ≤ 8 → y = lN (encM (chR v p (i + 1)))) := by
      unfold Model_cut_j111_l85 Model_cut_j131_l85
      simp only [mb_nm]
      rw [nI_1]
      by_cases c : 8 ≤ i
      · rw [if_pos (by rw [l8, mb_le (by omega) (by omega)]; exact c)]
        exact ⟨x4, rfl, fun z => by omega⟩
      · rw [if_neg (by rw [l8, mb_le (by omega) (by omega)]; exact c), nI_add, hx, mb_bd, e2 (by omega), mx_more hb, mb_bd]
        exact ⟨_, rfl, fun _ => rfl⟩
    obtain ⟨y, t1, t2⟩ := tail
    refine ⟨(nI (i + 1), y), ?_, rfl, t2⟩
    show Model_cut_l85 M (nI p) (nI i) x4 = _
    unfold Model_cut_l85
    rw [t1, nI_add, hx, mb_bd, nx_le _ h256, mb_bd, mb_bd, nx_di _ h256, mb_bd]
    cases h1 : isLe (v (p + i)) with
    | true => rw [if_neg (by decide)]
    | false =>
      have hb : (isLe (v (p + i)) || isDi (v (p + i))) = true := hb
      rw [h1, Bool.false_or] at hb
      rw [if_pos (by rfl), hb, if_neg (by decide)]
  · intro q hI
    obtain ⟨x3, x4⟩ := q
    obtain ⟨e1, e2⟩ := hI
    dsimp only at e1 e2
    subst e1
    refine ⟨(nI (rnE isAl v n p - p), x4), ?_, rfl, e2⟩
    have hx := mx_at h (show p + (rnE isAl v n p - p) < 4000 by omega)
    have h256 := mx_c h (p + (rnE isAl v n p - p))
    show Model_cut_l85 M (nI p) (nI (rnE isAl v n p - p)) x4 = _
    unfold Model_cut_l85
    rw [nI_add, hx, mb_bd, nx_le _ h256, mb_bd, mb_bd, nx_di _ h256, mb_bd]
    have hz : isLe (if p + (rnE isAl v n p - p) < n then v (p + (rnE isAl v n p - p)) else 0) = false ∧ isDi (if p + (rnE isAl v n p - p) < n then v (p + (rnE isAl v n p - p)) else 0) = false := by
      by_cases c : p + (rnE isAl v n p - p) < n
      · rw [if_pos c]
        have hb := rnE_out (P := isAl) (v := v) (Nat.le_of_lt hp) (by omega)
        rw [show p + (rnE isAl v n p - p) = rnE isAl v n p by omega]
        exact Bool.or_eq_false_iff.mp (show (isLe (v (rnE isAl v n p)) || isDi (v (rnE isAl v n p))) = false from hb)
      · rw [if_neg c]
        decide
    rw [hz.1, hz.2, if_pos (by rfl), if_pos (by rfl)]
theorem m_int (h : MXt v n M) {p : Nat} (hp : p < n) : ∃ r, wh (un2 (Model_cut_l221 M (nI p))) ((0 : Int32), (0 : Int32)) = some r ∧ r.1 = nI (rnE isDi v n p - p) ∧ (rnE isDi v n p - p ≤ 4 → r.2 = nI (nuR v p (rnE isDi v n p - p))) := by
  have hn := h.1
  obtain ⟨q1, q2⟩ := rnE_le (v := v) isDi (Nat.le_of_lt hp)
  refine wh_ix (f := un2 (Model_cut_l221 M (nI p))) (s := ((0 : Int32), (0 : Int32))) (rnE isDi v n p - p) (fun i q => q.1 = nI i ∧ (i ≤ 4 → q.2 = nI (nuR v p i))) (fun r => r.1 = nI (rnE isDi v n p - p) ∧ (rnE isDi v n p - p ≤ 4 → r.2 = nI (nuR v p (rnE isDi v n p - p)))) ⟨rfl, fun _ => rfl⟩ ?_ ?_
  · intro i q hi hI
    obtain ⟨x3, x4⟩ := q
    obtain ⟨e1, e2⟩ := hI
    dsimp only at e1 e2
    subst e1
    have hb := rnE_in (P := isDi) (v := v) (n := n) (a := p) (j := p + i) (by omega) (by omega)
    have hx := mx_at h (show p + i < 4000 by omega)
    rw [if_pos (show p + i < n by omega)] at hx
    have h256 := (h.2.2 (p + i) (by omega)).2
    have hd : 48 ≤ v (p + i) ∧ v (p + i) ≤ 57 := by
      have hb : (Nat.ble 48 (v (p + i)) && Nat.ble (v (p + i)) 57) = true := hb
      rw [Bool.and_eq_true] at hb
      exact ⟨Nat.le_of_ble_eq_true hb.1, Nat.le_of_ble_eq_true hb.2⟩
    left
    by_cases c : 4 ≤ i
    · refine ⟨(nI (i + 1), x4), ?_, rfl, fun z => by omega⟩
      show Model_cut_l221 M (nI p) (nI i) x4 = _
      unfold Model_cut_l221 Model_cut_j257_l221
      rw [nI_add, hx, mb_bd, nx_di _ h256, mb_bd, hb, if_neg (by decide), if_pos (by rw [l4, mb_le (by omega) (by omega)]; exact c), mb_nm, nI_1]
    · refine ⟨(nI (i + 1), nI (nuR v p (i + 1))), ?_, rfl, fun _ => rfl⟩
      have en : 10 * nI (nuR v p i) + nI (v (p + i)) - 48 = nI (nuR v p (i + 1)) := by
        rw [show (10 : Int32) = nI 10 from rfl, pk_mul, nI_add, show (48 : Int32) = nI 48 from rfl, pk_sub (by omega)]
        congr 1
        show _ = 10 * nuR v p i + (v (p + i) - 48)
        omega
      show Model_cut_l221 M (nI p) (nI i) x4 = _
      unfold Model_cut_l221 Model_cut_j257_l221
      rw [nI_add, hx, mb_bd, nx_di _ h256, mb_bd, hb, if_neg (by decide), if_neg (by rw [l4, mb_le (by omega) (by omega)]; exact c), mb_bd, e2 (by omega), en, mb_nm, mb_nm, nI_1]
  · intro q hI
    obtain ⟨x3, x4⟩ := q
    obtain ⟨e1, e2⟩ := hI
    dsimp only at e1 e2
    subst e1
    refine ⟨(nI (rnE isDi v n p - p), x4), ?_, rfl, e2⟩
    have hx := mx_at h (show p + (rnE isDi v n p - p) < 4000 by omega)
    have h256 := mx_c h (p + (rnE isDi v n p - p))
    show Model_cut_l221 M (nI p) (nI (rnE isDi v n p - p)) x4 = _
    unfold Model_cut_l221
    have hz : isDi (if p + (rnE isDi v n p - p) < n then v (p + (rnE isDi v n p - p)) else 0) = false := by
      by_cases c : p + (rnE isDi v n p - p) < n
      · rw [if_pos c]
        have hb := rnE_out (P := isDi) (v := v) (Nat.le_of_lt hp) (by omega)
        rw [show p + (rnE isDi v n p - p) = rnE isDi v n p by omega]
        exact hb
      · rw [if_neg c]
        decide
    rw [nI_add, hx, mb_bd, nx_di _ h256, mb_bd, hz, if_pos (by rfl)]
theorem m_key (hk : ∀ k, k < 13 → gB M 0 9 k = keyL.getD k 0) {w : List Nat} (hw : alW w) (hl : w.length ≤ 8) (x1 x3 : Int32) : wh (un2 (Model_cut_l159 M x1 x3 (lN (encM w)))) ((1 : Int32), (0 : Int32)) = some (nI (mk (wKd w))) := by
  have hc : ∀ k, k < 13 → (lg_cmp (gB M 0 9 k) (lN (encM w)) = 0 ↔ wdM.getD k [] = w) := by
    intro k hk2
    have h5 := (wdM_al k hk2).2
    rw [lg_cmp_eq, hk k hk2, key_M k hk2]
    exact encM_eq (wdM_alW hk2) hw (by omega) hl
  obtain ⟨r, h1, h2⟩ := wh_ix (f := un2 (Model_cut_l159 M x1 x3 (lN (encM w)))) (s := ((1 : Int32), (0 : Int32))) 13 (fun k q => q.2 = nI k ∧ q.1 = (match wix w k with | some j => nI (20 + j) | none => 1)) (fun r => r = (match wix w 13 with | some j => nI (20 + j) | none => 1)) ⟨rfl, rfl⟩ (by
    intro k q hk2 hI
    obtain ⟨x6, x7⟩ := q
    obtain ⟨e1, e2⟩ := hI
    dsimp only at e1 e2
    subst e1 e2
    left
    have hs : wix w (k + 1) = (match wix w k with | some j => some j | none => if wdM.getD k [] = w then some k else none) := rfl
    have body : ∀ x6, Model_cut_l159 M x1 x3 (lN (encM w)) x6 (nI k) = (if lg_cmp (gB M 0 9 k) (lN (encM w)) = 0 then some (.inl (nI (20 + k), nI (k + 1))) else some (.inl (x6, nI (k + 1)))) := by
      intro x6
      unfold Model_cut_l159 Model_cut_j186_l159
      simp only [mb_nm]
      rw [show (13 : Int32) = nI 13 from rfl, if_neg (by rw [mb_le (by omega) (by omega)]; omega), mb_in (by omega) (by decide), mb_gd, mb_cl (by omega), nI_1, show (20 : Int32) = nI 20 from rfl, nI_add]
    show ∃ t, Model_cut_l159 M x1 x3 (lN (encM w)) _ (nI k) = some (.inl t) ∧ _
    rw [body]
    by_cases c : wdM.getD k [] = w
    · rw [if_pos ((hc k hk2).mpr c)]
      refine ⟨_, rfl, rfl, ?_⟩
      cases hx : wix w k with
      | none =>
        rw [hx] at hs
        dsimp only at hs
        rw [if_pos c] at hs
        rw [hs]
      | some j =>
        exfalso
        obtain ⟨j1, j2, -⟩ := wix_s hx
        have := wdM_inj j (by omega) k hk2 (by rw [j2, c])
        omega
    · rw [if_neg (fun z => c ((hc k hk2).mp z))]
      refine ⟨_, rfl, rfl, ?_⟩
      cases hx : wix w k with
      | none =>
        rw [hx] at hs
        dsimp only at hs
        rw [if_neg c] at hs
        rw [hs]
      | some j =>
        rw [hx] at hs
        rw [hs]) (by
    intro q hI
    obtain ⟨x6, x7⟩ := q
    obtain ⟨e1, e2⟩ := hI
    dsimp only at e1 e2
    subst e1
    refine ⟨x6, ?_, e2⟩
    show Model_cut_l159 M x1 x3 (lN (encM w)) x6 (nI 13) = _
    unfold Model_cut_l159
    rw [if_pos (by decide)])
  rw [h1, h2]
  unfold wKd
  cases hx : wix w 13 with
  | none => rfl
  | some j =>
    have := (wix_s hx).1
    show some (nI (20 + j)) = some (nI (mk (14 + j)))
    have hm : ∀ j, j < 13 → mk (14 + j) = 20 + j := by decide
    rw [hm j this]
theorem wix_7 {w : List Nat} (h : 6 < w.length) : wKd w = 2 := by
  unfold wKd
  cases hx : wix w 13 with
  | none => rfl
  | some j =>
    exfalso
    obtain ⟨j1, j2, -⟩ := wix_s hx
    have := (wdM_al j j1).2
    rw [j2] at this
    omega
theorem m_sign {c d p : Nat} (hc : c < 256) (hd : d < 256) (hcL : isLe c = false) (hcD : isDi c = false) : f_Model_sign M (nI p) (nI c) (nI d) = bd (f_Model_token M (nI (mk (sgK c (Nat.beq d 61)))) (nI p) 0 0) (fun S_14 => some (nI (sgL c (Nat.beq d 61)), S_14)) := by
  have t0 : ∀ k : Nat, Model_sign_j147 M (nI p) 0 (nI k) = bd (f_Model_token M (nI k) (nI p) 0 0) (fun S_14 => some (nI 1, S_14)) := by
    intro k
    unfold Model_sign_j147 Model_sign_j166
    refine congrArg (bd _) (funext fun S_14 => ?_)
    exact if_pos (by decide)
  have t1 : ∀ k : Nat, 0 < k → k < 100 → Model_sign_j42 M (nI p) (nI c) (nI k) = bd (f_Model_token M (nI k) (nI p) 0 0) (fun S_14 => some (nI 2, S_14)) := by
    intro k hk hk2
    unfold Model_sign_j42 Model_sign_j147 Model_sign_j166
    rw [if_neg (by rw [l0, mb_le (by omega) (by omega)]; omega)]
    refine congrArg (bd _) (funext fun S_14 => ?_)
    exact if_neg (by rw [l0, mb_le (by omega) (by omega)]; omega)
  have q : ∀ k : Nat, k < 256 → (nI c = OfNat.ofNat k) = (c = k) := by
    intro k hk
    rw [mb_lit, mb_eq (by omega) (by omega)]
  have t2 : Model_sign_j42 M (nI p) (nI c) 0 = bd (f_Model_token M (nI (mk (sgP c))) (nI p) 0 0) (fun S_14 => some (nI 1, S_14)) := by
    unfold Model_sign_j42
    rw [if_pos (by decide)]
    have r := fun k => t0 k
    by_cases c1 : c = 59
    · rw [if_pos (by rw [c1]; rfl), c1]; exact r 8
    rw [if_neg (by rw [show (59 : Int32) = nI 59 from rfl, mb_eq (by omega) (by omega)]; exact c1)]
    by_cases c2 : c = 40
    · rw [if_pos (by rw [c2]; rfl), c2]; exact r 9
    rw [if_neg (by rw [show (40 : Int32) = nI 40 from rfl, mb_eq (by omega) (by omega)]; exact c2)]
    by_cases c3 : c = 41
    · rw [if_pos (by rw [c3]; rfl), c3]; exact r 10
    rw [if_neg (by rw [show (41 : Int32) = nI 41 from rfl, mb_eq (by omega) (by omega)]; exact c3)]
    by_cases c4 : c = 43
    · rw [if_pos (by rw [c4]; rfl), c4]; exact r 11
    rw [if_neg (by rw [show (43 : Int32) = nI 43 from rfl, mb_eq (by omega) (by omega)]; exact c4)]
    by_cases c5 : c = 45
    · rw [if_pos (by rw [c5]; rfl), c5]; exact r 12
    rw [if_neg (by rw [show (45 : Int32) = nI 45 from rfl, mb_eq (by omega) (by omega)]; exact c5)]
    by_cases c6 : c = 42
    · rw [if_pos (by rw [c6]; rfl), c6]; exact r 13
    rw [if_neg (by rw [show (42 : Int32) = nI 42 from rfl, mb_eq (by omega) (by omega)]; exact c6)]
    by_cases c7 : c = 60
    · rw [if_pos (by rw [c7]; rfl), c7]; exact r 6
    rw [if_neg (by rw [show (60 : Int32) = nI 60 from rfl, mb_eq (by omega) (by omega)]; exact c7)]
    unfold sgP
    rw [if_neg c1, if_neg c4, if_neg c5, if_neg c6, if_neg c7, if_neg c2, if_neg c3]
    exact r 3
  unfold f_Model_sign
  by_cases e : d = 61
  · rw [if_pos (by rw [e]; rfl), e]
    show _ = bd (f_Model_token M (nI (mk (cond (Nat.beq (sgE c) 1) (sgP c) (sgE c)))) (nI p) 0 0) (fun S_14 => some (nI (cond (Nat.beq (sgE c) 1) 1 2), S_14))
    by_cases c1 : c = 61
    · rw [if_pos (by rw [c1]; rfl)]
      have := t1 4 (by decide) (by decide)
      rw [c1] at this ⊢
      exact this
    rw [if_neg (by rw [show (61 : Int32) = nI 61 from rfl, mb_eq (by omega) (by omega)]; exact c1)]
    by_cases c2 : c = 33
    · rw [if_pos (by rw [c2]; rfl)]
      have := t1 5 (by decide) (by decide)
      rw [c2] at this ⊢
      exact this
    rw [if_neg (by rw [show (33 : Int32) = nI 33 from rfl, mb_eq (by omega) (by omega)]; exact c2)]
    by_cases c3 : c = 60
    · rw [if_pos (by rw [c3]; rfl)]
      have := t1 7 (by decide) (by decide)
      rw [c3] at this ⊢
      exact this
    rw [if_neg (by rw [show (60 : Int32) = nI 60 from rfl, mb_eq (by omega) (by omega)]; exact c3), t2]
    have : sgE c = 1 := by
      unfold sgE
      rw [if_neg c1, if_neg c2, if_neg c3]
    rw [this]
    rfl
  · have hb : Nat.beq d 61 = false := by
      cases h : Nat.beq d 61 with
      | false => rfl
      | true => exact absurd (Nat.eq_of_beq_eq_true h) e
    rw [if_neg (by rw [show (61 : Int32) = nI 61 from rfl, mb_eq (by omega) (by omega)]; exact e), t2, hb]
    rfl
def cuI (v : Nat → Nat) (n : Nat) (M0 : St) (q : St × Int32) : Prop := ∃ c p, q.2 = nI p ∧ p ≤ n ∧ ps v n c ≤ p ∧ rnE isBl v n p = rnE isBl v n (ps v n c) ∧ gI q.1 0 10 = nI c ∧ c ≤ 401 ∧ agZ [10] [5, 6, 7] [8] M0 q.1 ∧ ∀ i, i < c → TKS v n q.1 i ∧ ¬ tK v n i = 0
theorem m_cut (h : MXt v n M) (hk : ∀ k, k < 13 → gB M 0 9 k = keyL.getD k 0) : ∃ M', f_Model_cut M = some M' ∧ agZ [10] [5, 6, 7] [8] M M' ∧ ∀ i, i ≤ 400 → (∀ j, j < i → ¬ tK v n j = 0) → TKS v n M' i := by
  have hn := h.1
  unfold f_Model_cut
  rw [mb_nm]
  refine wh_ms (f := un2 Model_cut_l7) (s := (pI M 0 10 0, (0 : Int32))) (fun q => 2001 - q.2.toNatClampNeg) (cuI v n M) (fun M' => agZ [10] [5, 6, 7] [8] M M' ∧ ∀ i, i ≤ 400 → (∀ j, j < i → ¬ tK v n j = 0) → TKS v n M' i) ⟨0, 0, rfl, Nat.zero_le n, Nat.zero_le _, rfl, gI_s _ _ _ _, by decide, agZ.pI M 10 _ (by decide), fun i hi => absurd hi (Nat.not_lt_zero i)⟩ ?_
  intro q hI
  obtain ⟨M1, x1⟩ := q
  obtain ⟨c, p, e1, hp, hps, hpe, e10, hc, a1, tk⟩ := hI
  dsimp only at e1 e10 a1 tk
  subst e1
  have hX : MXt v n M1 := ⟨hn, by rw [a1.1 4 (by decide)]; exact h.2.1, by rw [a1.2.1 3 (by decide)]; exact h.2.2⟩
  show (∃ t, Model_cut_l7 M1 (nI p) = some (.inl t) ∧ _) ∨ ∃ r, Model_cut_l7 M1 (nI p) = some (.inr r) ∧ _
  unfold Model_cut_l7
  rw [e10, show (400 : Int32) = nI 400 from rfl]
  by_cases c4 : 400 < c
  · rw [if_pos (by rw [mb_lt (by omega) (by omega)]; exact c4)]
    right
    exact ⟨M1, rfl, a1, fun i hi _ => (tk i (by omega)).1⟩
  rw [if_neg (by rw [mb_lt (by omega) (by omega)]; exact c4), mx_at hX (by omega), mb_bd, hX.2.1]
  by_cases c5 : p < n
  · rw [if_pos (by rw [mb_lt (by omega) (by omega)]; exact c5), if_pos c5]
    have h256 := (h.2.2 p c5).2
    left
    cases hb : isBl (v p) with
    | true =>
      have skip : Model_cut_j67_l7 M1 (nI p) = some (.inl (M1, nI (p + 1))) := by
        unfold Model_cut_j67_l7 Model_cut_j304_l7
        rw [mb_nm, nI_1]
      rw [skip]
      have hor := (nx_bl _ h256).mpr hb
      refine ⟨(M1, nI (p + 1)), ?_, ⟨c, p + 1, rfl, by omega, by omega, by rw [← rnE_t c5 hb]; exact hpe, e10, hc, a1, tk⟩, ?_⟩
      · by_cases d1 : nI (v p) = 9
        · rw [if_pos d1]
        rw [if_neg d1]
        by_cases d2 : nI (v p) = 10
        · rw [if_pos d2]
        rw [if_neg d2]
        by_cases d3 : nI (v p) = 13
        · rw [if_pos d3]
        rw [if_neg d3]
        by_cases d4 : nI (v p) = 32
        · rw [if_pos d4]
        · exfalso
          rcases hor with z | z | z | z
          · exact d1 z
          · exact d2 z
          · exact d3 z
          · exact d4 z
      · show 2001 - (nI (p + 1)).toNatClampNeg < 2001 - (nI p).toNatClampNeg
        rw [mb_cl (by omega), mb_cl (by omega)]
        omega
    | false =>
      have hnb : ¬ (nI (v p) = 9 ∨ nI (v p) = 10 ∨ nI (v p) = 13 ∨ nI (v p) = 32) := fun z => by
        rw [(nx_bl _ h256).mp z] at hb
        cases hb
      rw [if_neg (fun z => hnb (Or.inl z)), if_neg (fun z => hnb (Or.inr (Or.inl z))), if_neg (fun z => hnb (Or.inr (Or.inr (Or.inl z)))), if_neg (fun z => hnb (Or.inr (Or.inr (Or.inr z)))), nx_le _ h256, mb_bd, nx_di _ h256, mb_bd]
      have hpp : rnE isBl v n (ps v n c) = p := by rw [← hpe]; exact rnE_f hb
      have htok : tok v n c = tkAt v n p := by unfold tok; rw [hpp]
      have hps1 : ps v n (c + 1) = (tkAt v n p).2.2.2.2 := by
        show (tkAt v n (rnE isBl v n (ps v n c))).2.2.2.2 = _
        rw [hpp]
      have hnx := tk_next (v := v) (p := p) (Nat.le_of_lt c5)
      have hne : ¬ tK v n c = 0 := fun z => by
        have := (tK_lt (v := v) (n := n) c).2.mp z
        rw [hpp] at this
        exact this c5
      -- what is left once the token is there
      have fin : ∀ (x1 x3 : Int32) (x4 : Int64) (e : Nat), e = ps v n (c + 1) → x1 = nI (mk (tK v n c)) → (tK v n c = 3 → x3 = nI (tN v n c)) → (tK v n c = 2 → x4 = lN (encM (tWd v n c))) → ∃ M2, f_Model_token M1 x1 (nI p) x3 x4 = some M2 ∧ cuI v n M (M2, nI e) ∧ 2001 - (nI e).toNatClampNeg < 2001 - (nI p).toNatClampNeg := by
        intro x1 x3 x4 e he h1 h3 h4
        obtain ⟨M2, g1, a2, f10, fo, f5, f6, f7, f8⟩ := m_token (M := M1) (show c < 403 by omega) e10 x1 (nI p) x3 x4
        refine ⟨M2, g1, ⟨c + 1, e, rfl, by rw [he]; exact ps_le _, by rw [he]; exact Nat.le_refl _, by rw [he], f10, by omega, a1.tr a2, fun i hi => ?_⟩, ?_⟩
        · by_cases ei : i = c
          · subst ei
            refine ⟨⟨by rw [f5]; exact h1, ?_, fun z => by rw [f7]; exact h3 z, fun z => by rw [f8]; exact h4 z⟩, hne⟩
            rw [f6]
            unfold tP
            rw [htok, (hnx.2.2 c5).2]
          · obtain ⟨g5, g6, g7, g8⟩ := fo i ei
            obtain ⟨t1, t2⟩ := tk i (by omega)
            refine ⟨⟨by rw [g5]; exact t1.1, by rw [g6]; exact t1.2.1, by rw [g7]; exact t1.2.2.1, by rw [g8]; exact t1.2.2.2⟩, t2⟩
        · have := (hnx.2.2 c5).1
          rw [he, hps1, mb_cl (by omega), mb_cl (by omega)]
          omega
      unfold tK tN tWd at fin
      rw [htok, hps1] at fin
      have hnx1 := hnx.1
      have hnx2 := (hnx.2.2 c5).1
      have hk1 : ∀ k, k < 13 → gB M1 0 9 k = keyL.getD k 0 := by rw [a1.2.2 9 (by decide)]; exact hk
      have hT : tkAt v n p = cond (isLe (v p)) ((if rnE isAl v n p - p ≤ 8 then wKd (chR v p (rnE isAl v n p - p)) else 1), p, 0, chR v p (rnE isAl v n p - p), rnE isAl v n p)
          (cond (isDi (v p)) ((if rnE isDi v n p - p ≤ 4 then 3 else 1), p, nuR v p (rnE isDi v n p - p), [], rnE isDi v n p)
            (sgK (v p) (decide (p + 1 < n) && Nat.beq (v (p + 1)) 61), p, 0, [], p + sgL (v p) (decide (p + 1 < n) && Nat.beq (v (p + 1)) 61))) := by
        unfold tkAt
        rw [if_pos c5]
      rw [hT] at fin
      cases hL : isLe (v p) with
      | true =>
        rw [hL] at fin
        dsimp only [cond_true] at fin
        obtain ⟨⟨r1, r2⟩, g1, g2, g3⟩ := m_name hX c5 hL
        dsimp only at g2 g3
        subst g2
        have q1 := rnE_le (v := v) isAl (Nat.le_of_lt c5)
        rw [if_neg (by decide), g1, mb_bd2, show (8 : Int32) = nI 8 from rfl]
        by_cases d : rnE isAl v n p - p ≤ 8
        · rw [if_pos d] at fin
          rw [if_pos (by rw [mb_le (by omega) (by omega)]; exact d), g3 d]
          have hal : alW (chR v p (rnE isAl v n p - p)) := chR_al _ (fun j hj => rnE_in (P := isAl) (v := v) (n := n) (a := p) (by omega) (by omega))
          obtain ⟨M2, k1, k2, k3⟩ := fin (nI (mk (wKd (chR v p (rnE isAl v n p - p))))) 0 (lN (encM (chR v p (rnE isAl v n p - p)))) _ rfl rfl (fun z => absurd z (wKd_3 _)) (fun _ => rfl)
          have t : Model_cut_j192_l7 M1 (nI p) (nI (rnE isAl v n p - p)) (lN (encM (chR v p (rnE isAl v n p - p)))) (nI (mk (wKd (chR v p (rnE isAl v n p - p))))) = some (.inl (M2, nI (rnE isAl v n p))) := by
            unfold Model_cut_j192_l7 Model_cut_j304_l7
            rw [k1, mb_bd, mb_nm, nI_add, show p + (rnE isAl v n p - p) = rnE isAl v n p by omega]
          unfold Model_cut_j148_l7
          rw [m_key hk1 hal (by rw [chR_len]; exact d), mb_bd, t]
          by_cases d2 : 6 < rnE isAl v n p - p
          · rw [wix_7 (by rw [chR_len]; exact d2)] at t
            rw [if_pos (by rw [l6, mb_lt (by omega) (by omega)]; exact d2)]
            exact ⟨_, t, k2, k3⟩
          · rw [if_neg (by rw [l6, mb_lt (by omega) (by omega)]; exact d2)]
            exact ⟨_, rfl, k2, k3⟩
        · rw [if_neg d] at fin
          rw [if_neg (by rw [mb_le (by omega) (by omega)]; exact d)]
          obtain ⟨M2, k1, k2, k3⟩ := fin 3 0 r2 _ rfl rfl (fun z => by cases z) (fun z => by cases z)
          unfold Model_cut_j148_l7 Model_cut_j192_l7 Model_cut_j304_l7
          rw [if_pos (by rw [l6, mb_lt (by omega) (by omega)]; omega), k1, mb_bd, mb_nm, nI_add, show p + (rnE isAl v n p - p) = rnE isAl v n p by omega]
          exact ⟨_, rfl, k2, k3⟩
      | false =>
        rw [hL] at fin
        dsimp only [cond_false] at fin
        rw [if_pos (by rfl)]
        cases hD : isDi (v p) with
        | true =>
          rw [hD] at fin
          dsimp only [cond_true] at fin
          obtain ⟨⟨r1, r2⟩, g1, g2, g3⟩ := m_int hX c5
          dsimp only at g2 g3
          subst g2
          have q1 := rnE_le (v := v) isDi (Nat.le_of_lt c5)
          rw [if_neg (by decide), g1, mb_bd2, show (4 : Int32) = nI 4 from rfl]
          by_cases d : rnE isDi v n p - p ≤ 4
          · rw [if_pos d] at fin
            rw [if_pos (by rw [mb_le (by omega) (by omega)]; exact d), g3 d]
            obtain ⟨M2, k1, k2, k3⟩ := fin 2 (nI (nuR v p (rnE isDi v n p - p))) 0 _ rfl rfl (fun _ => rfl) (fun z => by cases z)
            unfold Model_cut_j274_l7 Model_cut_j304_l7
            rw [k1, mb_bd, mb_nm, nI_add, show p + (rnE isDi v n p - p) = rnE isDi v n p by omega]
            exact ⟨_, rfl, k2, k3⟩
          · rw [if_neg d] at fin
            rw [if_neg (by rw [mb_le (by omega) (by omega)]; exact d)]
            obtain ⟨M2, k1, k2, k3⟩ := fin 3 r2 0 _ rfl rfl (fun z => by cases z) (fun z => by cases z)
            unfold Model_cut_j274_l7 Model_cut_j304_l7
            rw [k1, mb_bd, mb_nm, nI_add, show p + (rnE isDi v n p - p) = rnE isDi v n p by omega]
            exact ⟨_, rfl, k2, k3⟩
        | false =>
          rw [hD] at fin
          dsimp only [cond_false] at fin
          have hd := mx_at hX (show p + 1 < 4000 by omega)
          have hq : Nat.beq (if p + 1 < n then v (p + 1) else 0) 61 = (decide (p + 1 < n) && Nat.beq (v (p + 1)) 61) := by
            by_cases d : p + 1 < n
            · rw [if_pos d, decide_eq_true d, Bool.true_and]
            · rw [if_neg d, decide_eq_false d, Bool.false_and]
              rfl
          have h7 := sg_23 (v p) (decide (p + 1 < n) && Nat.beq (v (p + 1)) 61)
          obtain ⟨M2, k1, k2, k3⟩ := fin (nI (mk (sgK (v p) (decide (p + 1 < n) && Nat.beq (v (p + 1)) 61)))) 0 0 _ rfl rfl (fun z => absurd z h7.2.1) (fun z => absurd z h7.1)
          unfold Model_cut_j304_l7
          rw [if_pos (by rfl), nI_1, hd, mb_bd, m_sign h256 (mx_c hX (p + 1)) hL hD, hq, k1, mb_bd, mb_bd2, nI_add, mb_nm]
          exact ⟨_, rfl, k2, k3⟩
  · have ep : p = n := by omega
    subst ep
    rw [if_neg (by rw [mb_lt (by omega) (by omega)]; exact c5)]
    right
    obtain ⟨M2, g1, a2, f10, fo, f5, f6, f7, f8⟩ := m_token (M := M1) (show c < 403 by omega) e10 0 (nI p) 0 0
    rw [g1, mb_bd]
    have hpp : rnE isBl v p (ps v p c) = p := by rw [← hpe]; exact rnE_n isBl
    have htok : tok v p c = (0, p, 0, [], p) := by
      unfold tok tkAt
      rw [hpp, if_neg (Nat.lt_irrefl p)]
    have h0 : tK v p c = 0 := by unfold tK; rw [htok]
    refine ⟨M2, rfl, a1.tr a2, fun i hi hj => ?_⟩
    rcases Nat.lt_trichotomy i c with z | z | z
    · obtain ⟨g5, g6, g7, g8⟩ := fo i (by omega)
      obtain ⟨t1, t2⟩ := tk i z
      exact ⟨by rw [g5]; exact t1.1, by rw [g6]; exact t1.2.1, by rw [g7]; exact t1.2.2.1, by rw [g8]; exact t1.2.2.2⟩
    · subst z
      refine ⟨by rw [f5, h0]; rfl, ?_, fun z => ?_, fun z => ?_⟩
      · rw [f6]
        unfold tP
        rw [htok]
      · rw [h0] at z; cases z
      · rw [h0] at z; cases z
    · exact absurd h0 (hj c z)
