/-! the class: shares -/
theorem l1000 : (1000 : Int32) = nI 1000 := rfl
theorem cl3_c (v : Int32) : (if (0 : Int32) < (if v < (1000 : Int32) then v else (1000 : Int32)) then (if v < (1000 : Int32) then v else (1000 : Int32)) else (0 : Int32)) = cl3 v := by
  unfold cl3
  by_cases h1 : v < 1000
  · rw [if_pos h1]
    have h2 : v ≤ 1000 := Int32.le_of_lt h1
    by_cases h0 : 0 < v
    · rw [if_pos h0, if_pos (Int32.le_of_lt h0), if_pos h2]
    · rw [if_neg h0]
      by_cases h3 : 0 ≤ v
      · rw [if_pos h3, if_pos h2]
        exact Int32.le_antisymm h3 (Int32.not_lt.mp h0)
      · rw [if_neg h3]
  · rw [if_neg h1, if_pos (by decide)]
    have h2 : 1000 ≤ v := Int32.not_lt.mp h1
    rw [if_pos (Int32.le_trans (by decide) h2)]
    by_cases h3 : v ≤ 1000
    · rw [if_pos h3]
      exact Int32.le_antisymm h2 h3
    · rw [if_neg h3]
theorem mx_r : ∀ a, a ≤ 6 → ∀ b, b ≤ 6 → (if nI a - 1 < nI b - 1 then nI b - 1 else nI a - 1) = nI (max a b) - 1 := by decide
theorem c_reachOf {S : St} {k : Nat} (hk : k < 48) : f_Book_reachOf S (nI k) = some (gA S 5 9 k) := by
  unfold f_Book_reachOf Book_reachOf_j20
  rw [if_neg (nI_pos (by omega)), show (48 : Int32) = nI 48 from rfl, if_neg (by rw [mb_le (by omega) (by omega)]; omega), mb_in hk (by decide), mb_gd, mb_cl (by omega)]
/-- shares look no further than r -/
def shR (T : Tx) (r n : Nat) : Prop := ∀ now now' : Nat → Int32, (∀ f, f < r → now f = now' f) → ∀ k, k < n → tAm T k now = tAm T k now' ∧ ∀ old old', tCd T 4 k now old = tCd T 4 k now' old'
variable {T : Tx} {on tn : Nat} {lg : List Nat} {tb : Nat → Int32} {pl : Int32} {S S' : St}
theorem c_reachSh (hw : wfT T) (hK : CK T S) : ∃ r, r ≤ 6 ∧ f_Chart_reachOfShares S = some (nI r - 1) ∧ shR T r (tNt T 4) := by
  have n8 := hw.2.2.2.1 4 (by decide)
  unfold f_Chart_reachOfShares
  have key := wh_ix (f := un2 (Chart_reachOfShares_l4 S)) (s := ((-1 : Int32), (0 : Int32))) (tNt T 4) (fun k q => q.2 = nI k ∧ ∃ r, r ≤ 6 ∧ q.1 = nI r - 1 ∧ shR T r k) (fun x => ∃ r, r ≤ 6 ∧ x = nI r - 1 ∧ shR T r (tNt T 4)) ⟨rfl, 0, by omega, rfl, fun _ _ _ k hk => absurd hk (Nat.not_lt_zero k)⟩ ?_ ?_
  · obtain ⟨x, h1, r, hr, e, h2⟩ := key
    rw [h1, mb_bd, e]
    exact ⟨r, hr, rfl, h2⟩
  · intro k q hk hI
    obtain ⟨x1, x2⟩ := q
    obtain ⟨e1, r, hr, e2, h2⟩ := hI
    dsimp only at e1 e2
    subst e1 e2
    obtain ⟨⟨r1, hr1, er1, hd1⟩, r2, hr2, er2, hd2⟩ := hK.2.1.2 k hk
    left
    have hm1 : max r r1 ≤ 6 := Nat.max_le.mpr ⟨hr, hr1⟩
    have hm2 : max (max r r1) r2 ≤ 6 := Nat.max_le.mpr ⟨hm1, hr2⟩
    refine ⟨(nI (max (max r r1) r2) - 1, nI (k + 1)), ?_, rfl, _, hm2, rfl, ?_⟩
    · show Chart_reachOfShares_l4 S (nI r - 1) (nI k) = _
      unfold Chart_reachOfShares_l4
      rw [l4, c_toldOf hK.1 (by decide), mb_bd, if_neg (by rw [mb_le (by omega) (by omega)]; omega), show (32 : Int32) = nI 32 from rfl, nI_add, c_reachOf (by omega), mb_bd, mb_nm, er1, mx_r r hr r1 hr1, show (40 : Int32) = nI 40 from rfl, nI_add, c_reachOf (by omega), mb_bd, mb_nm, er2, mx_r _ hm1 r2 hr2, mb_nm, nI_1]
    · intro now now' hn j hj
      have g1 : r ≤ max (max r r1) r2 := Nat.le_trans (Nat.le_max_left r r1) (Nat.le_max_left _ _)
      have g2 : r1 ≤ max (max r r1) r2 := Nat.le_trans (Nat.le_max_right r r1) (Nat.le_max_left _ _)
      have g3 : r2 ≤ max (max r r1) r2 := Nat.le_max_right _ _
      by_cases e : j = k
      · subst e
        exact ⟨hd1 now now' (fun f hf => hn f (by omega)), fun old old' => hd2 now now' old old' (fun f hf => hn f (by omega))⟩
      · exact h2 now now' (fun f hf => hn f (by omega)) j (by omega)
  · intro q hI
    obtain ⟨x1, x2⟩ := q
    obtain ⟨e1, h2⟩ := hI
    dsimp only at e1 h2
    subst e1
    refine ⟨x1, ?_, h2⟩
    show Chart_reachOfShares_l4 S x1 (nI (tNt T 4)) = _
    unfold Chart_reachOfShares_l4
    rw [l4, c_toldOf hK.1 (by decide), mb_bd, if_pos (by rw [mb_le (by omega) (by omega)]; omega)]
theorem sh_cg {r i j : Nat} (h : shR T r (tNt T 4)) (hn : ∀ f, f < r → tEv T i f = tEv T j f) : shN T i = shN T j := by
  have hd := h _ _ hn
  have h1 : ∀ n, n ≤ tNt T 4 → shTo T i n = shTo T j n := by
    intro n
    induction n with
    | zero => intro _; rfl
    | succ n ih =>
      intro hn
      show (match shTo T i n with | some a => some a | none => cond (tCd T 4 n (tEv T i) (tEv T i)) (some n) none) = (match shTo T j n with | some a => some a | none => cond (tCd T 4 n (tEv T j) (tEv T j)) (some n) none)
      rw [ih (by omega), (hd n (by omega)).2 (tEv T i) (tEv T j)]
  have hs : ∀ n k, shTo T j n = some k → k < n := by
    intro n
    induction n with
    | zero => intro k hk; cases hk
    | succ n ih =>
      intro k hk
      have hk : (match shTo T j n with | some a => some a | none => cond (tCd T 4 n (tEv T j) (tEv T j)) (some n) none) = some k := hk
      cases hx : shTo T j n with
      | some a =>
        rw [hx] at hk
        have := ih a hx
        have e : a = k := Option.some.inj hk
        omega
      | none =>
        rw [hx] at hk
        cases hc : tCd T 4 n (tEv T j) (tEv T j) with
        | true =>
          rw [hc] at hk
          have e : n = k := Option.some.inj hk
          omega
        | false =>
          rw [hc] at hk
          cases hk
  unfold shN shI
  rw [h1 _ (Nat.le_refl _)]
  cases hx : shTo T j (tNt T 4) with
  | none => rfl
  | some k =>
    dsimp only
    rw [(hd k (hs _ _ hx)).1]
theorem c_isEmpty {k : Nat} (hk : k < 48) : f_Book_isEmpty S (nI k) = some (if gA S 5 7 k = gA S 5 8 k then 1 else 0) := by
  unfold f_Book_isEmpty Book_isEmpty_j25 Book_isEmpty_j30
  rw [if_neg (nI_pos (by omega)), show (48 : Int32) = nI 48 from rfl, if_neg (by rw [mb_le (by omega) (by omega)]; omega), mb_in hk (by decide), mb_gd, mb_gd, mb_cl (by omega)]
  by_cases c : gA S 5 7 k = gA S 5 8 k
  · rw [if_pos c, if_pos c]; rfl
  · rw [if_neg c, if_neg c]; rfl
theorem c_shareNow (hw : wfT T) (hK : CK T S) {i : Nat} (hv : ∀ f, f < tNf T → gA S 4 1 f = tEv T i f) : ∃ S', f_Chart_shareNow S = some (nI (shN T i), S') ∧ agC [] [(6, 0)] [] S S' := by
  have n8 := hw.2.2.2.1 4 (by decide)
  unfold f_Chart_shareNow
  have key := wh_ix (f := un2 Chart_shareNow_l2) (s := (S, (0 : Int32))) (tNt T 4) (fun k q => q.2 = nI k ∧ agC [] [(6, 0)] [] S q.1 ∧ shTo T i k = none) (fun r => r.1 = nI (shN T i) ∧ agC [] [(6, 0)] [] S r.2) ⟨rfl, agC.rf S, rfl⟩ ?_ ?_
  · obtain ⟨⟨v, S1⟩, h1, e, a⟩ := key
    dsimp only at e a
    subst e
    exact ⟨S1, h1, a⟩
  · intro k q hk hI
    obtain ⟨S1, x⟩ := q
    obtain ⟨e1, a1, hn⟩ := hI
    dsimp only at e1 a1 hn
    subst e1
    have hK1 : CK T S1 := hK.ag a1 (by decide) (by decide)
    have hv1 : ∀ f, f < tNf T → gA S1 4 1 f = tEv T i f := fun f hf => by rw [a1.2.1 4 1 (by decide)]; exact hv f hf
    have hst : shTo T i (k + 1) = cond (tCd T 4 k (tEv T i) (tEv T i)) (some k) none := by
      show (match shTo T i k with | some a => some a | none => cond (tCd T 4 k (tEv T i) (tEv T i)) (some k) none) = _
      rw [hn]
    -- the amount
    have amount : ∀ S2, agC [] [(6, 0)] [] S S2 → tCd T 4 k (tEv T i) (tEv T i) = true → ∃ r, Chart_shareNow_j53_l2 S2 (nI k) = some (.inr r) ∧ r.1 = nI (shN T i) ∧ agC [] [(6, 0)] [] S r.2 := by
      intro S2 a2 hc
      have hK2 : CK T S2 := hK.ag a2 (by decide) (by decide)
      obtain ⟨S3, h3, a3⟩ := ((hK2.2.2 S2 rfl rfl rfl 6 4 1 4 1 (Or.inl ⟨rfl, rfl, rfl, rfl, rfl⟩)).2 k hk).2
      refine ⟨(nI (shN T i), S3), ?_, rfl, a2.tr a3⟩
      unfold Chart_shareNow_j53_l2
      have ea : tAm T k (gA S2 4 1) = tAm T k (tEv T i) := hw.2.2.2.2.2.2 k hk _ _ (fun f hf => by rw [a2.2.1 4 1 (by decide)]; exact hv f hf)
      rw [show (32 : Int32) = nI 32 from rfl, nI_add, h3, mb_bd2, cl3_c, ea, ← (shI_N T i).1]
      have ef : ∀ n, k + 1 ≤ n → shTo T i n = some k := by
        intro n hn2
        induction hn2 with
        | refl => rw [hst, hc]; rfl
        | step _ ih => show (match shTo T i _ with | some a => some a | none => _) = some k; rw [ih]
      unfold shI
      rw [ef (tNt T 4) (by omega)]
    have head : Chart_shareNow_l2 S1 (nI k) = (if (if gA S1 5 7 (40 + k) = gA S1 5 8 (40 + k) then (1 : Int32) else 0) = 0 then bd2 (f_Machine_run 6 4 1 4 1 S1 (nI (40 + k))) fun v_9 S_10 => if v_9 = 0 then some (.inl (S_10, nI (k + 1))) else Chart_shareNow_j53_l2 S_10 (nI k) else Chart_shareNow_j53_l2 S1 (nI k)) := by
      unfold Chart_shareNow_l2
      rw [l4, c_toldOf hK1.1 (by decide), mb_bd, if_neg (by rw [mb_le (by omega) (by omega)]; omega), mb_nm, show (40 : Int32) = nI 40 from rfl, nI_add, c_isEmpty (by omega), mb_bd, nI_1]
      rfl
    show (∃ t, Chart_shareNow_l2 S1 (nI k) = some (.inl t) ∧ _) ∨ (∃ r, Chart_shareNow_l2 S1 (nI k) = some (.inr r) ∧ _)
    rw [head]
    rcases ((hK1.2.2 S1 rfl rfl rfl 6 4 1 4 1 (Or.inl ⟨rfl, rfl, rfl, rfl, rfl⟩)).2 k hk).1 with ⟨c, hc⟩ | ⟨c, S2, h2, a2⟩
    · rw [if_pos c, if_neg (by decide)]
      right
      exact amount S1 a1 (hc _ _)
    · have ec : tCd T 4 k (gA S1 4 1) (gA S1 4 1) = tCd T 4 k (tEv T i) (tEv T i) := hw.2.2.2.2.2.1 4 k (by decide) hk _ _ _ _ hv1 (fun e => by omega)
      rw [if_neg c, if_pos rfl, h2, mb_bd2, ec]
      cases hc : tCd T 4 k (tEv T i) (tEv T i) with
      | false =>
        left
        rw [if_pos (by rfl)]
        exact ⟨_, rfl, rfl, a1.tr a2, by rw [hst, hc]; rfl⟩
      | true =>
        right
        rw [if_neg (by decide)]
        exact amount S2 (a1.tr a2) hc
  · intro q hI
    obtain ⟨S1, x⟩ := q
    obtain ⟨e1, a1, hn⟩ := hI
    dsimp only at e1 a1 hn
    subst e1
    have hK1 : CK T S1 := hK.ag a1 (by decide) (by decide)
    refine ⟨(nI (shN T i), S1), ?_, rfl, a1⟩
    show Chart_shareNow_l2 S1 (nI (tNt T 4)) = _
    unfold Chart_shareNow_l2
    rw [l4, c_toldOf hK1.1 (by decide), mb_bd, if_pos (by rw [mb_le (by omega) (by omega)]; omega), ← (shI_N T i).1]
    unfold shI
    rw [hn]
def tsA : List (Nat × Nat) := [(4, 1), (4, 6), (6, 0)]
theorem c_tell1 (hw : wfT T) (hK : CK T S) (hge : tIn T ≤ gN S 4 6) (hN2 : gN S 4 6 ≤ 32768) : ∃ S', Chart_tellShares_j24 S = some S' ∧ agC [] tsA [] S S' ∧ ∀ i, i < tIn T → gA S' 4 6 i = nI (shN T i) := by
  have n1 := hw.2.2.1
  have n6 := hw.1
  unfold Chart_tellShares_j24
  rw [mb_nm, hK.1.2.1]
  have emin : (if nI (gN S 4 6) < nI (tIn T) then nI (gN S 4 6) else nI (tIn T)) = nI (tIn T) := by
    rw [if_neg (by rw [mb_lt (by omega) (by omega)]; omega)]
  obtain ⟨r, hr, h0, hsh⟩ := c_reachSh hw hK
  obtain ⟨S0, h1, a0, v0⟩ := c_spellFirst hw hK.1
  rw [emin, h0, mb_bd, h1, mb_bd]
  have key := wh_ix (f := un4 (Chart_tellShares_l64 (nI (tIn T)) (nI r - 1))) (s := (S0, (1 : Int32), (-1 : Int32), (0 : Int32))) (tIn T) (fun i q => q.2.2.2 = nI i ∧ agC [] tsA [] S q.1 ∧ (∀ j, j < i → gA q.1 4 6 j = nI (shN T j)) ∧ (i < tIn T → (∀ f, f < tNf T → gA q.1 4 1 f = tEv T i f) ∧ (nI r - 1 < q.2.2.1 → q.2.1 = nI (shN T i)))) (fun S' => agC [] tsA [] S S' ∧ ∀ i, i < tIn T → gA S' 4 6 i = nI (shN T i)) ⟨rfl, a0.wk (by decide) (by decide) (by decide), fun j hj => absurd hj (Nat.not_lt_zero j), fun _ => ⟨v0, fun z => absurd z (r_m1 r hr)⟩⟩ ?_ ?_
  · obtain ⟨S', h2, h3⟩ := key
    rw [h2, mb_bd]
    exact ⟨S', rfl, h3⟩
  · intro i q hi hI
    obtain ⟨S1, x3, x4, x5⟩ := q
    obtain ⟨e1, a1, v1, hv⟩ := hI
    dsimp only at e1 a1 v1 hv
    subst e1
    obtain ⟨hvv, hsk⟩ := hv hi
    have hK1 : CK T S1 := hK.ag a1 (by decide) (by decide)
    -- behind the share
    have tail : ∀ S2, agC [] [(6, 0)] [] S1 S2 → ∃ t, Chart_tellShares_j81_l64 S2 (nI (tIn T)) (nI r - 1) (nI (shN T i)) (nI i) = some (.inl t) ∧ (t.2.2.2 = nI (i + 1) ∧ agC [] tsA [] S t.1 ∧ (∀ j, j < i + 1 → gA t.1 4 6 j = nI (shN T j)) ∧ (i + 1 < tIn T → (∀ f, f < tNf T → gA t.1 4 1 f = tEv T (i + 1) f) ∧ (nI r - 1 < t.2.2.1 → t.2.1 = nI (shN T (i + 1))))) := by
      intro S2 a2
      have a12 : agC [] tsA [] S S2 := a1.tr (a2.wk (by decide) (by decide) (by decide))
      obtain ⟨S3, e3⟩ : ∃ S3, S3 = pA S2 4 6 i (nI (shN T i)) := ⟨_, rfl⟩
      have a3 : agC [] [(4, 6)] [] S2 S3 := by rw [e3]; exact agC.pA S2 4 6 i _ (by decide)
      have a13 : agC [] tsA [] S S3 := a12.tr (a3.wk (by decide) (by decide) (by decide))
      have hK3 : CK T S3 := hK.ag a13 (by decide) (by decide)
      obtain ⟨⟨c, S4⟩, h4, a4, hadv⟩ := c_advance hw hK3.1 hi (fun f hf => by rw [a3.2.1 4 1 (by decide), a2.2.1 4 1 (by decide)]; exact hvv f hf)
      dsimp only at a4 hadv
      refine ⟨(S4, nI (shN T i), c, nI (i + 1)), ?_, rfl, a13.tr (a4.wk (by decide) (by decide) (by decide)), ?_, ?_⟩
      · unfold Chart_tellShares_j81_l64
        rw [a12.2.2.2, mb_in (by omega) (by omega), mb_gd, mb_nm, mb_cl (by omega), ← e3, h4, mb_bd2, mb_nm, nI_1]
      · intro j hj
        show gA S4 4 6 j = _
        rw [a4.2.1 4 6 (by decide), e3, mb_AA]
        by_cases e : j = i
        · rw [if_pos ⟨rfl, rfl, e⟩, e]
        · rw [if_neg (fun z => e z.2.2), a2.2.1 4 6 (by decide)]; exact v1 j (by omega)
      · intro hlt
        obtain ⟨d, hd, ed, w1, w2⟩ := hadv hlt
        refine ⟨w1, fun hl => ?_⟩
        have hl : nI r - 1 < c := hl
        rw [ed] at hl
        have hrc := r_lt hr (by omega) hl
        show nI (shN T i) = _
        rw [sh_cg hsh (fun f hf => w2 f (by omega))]
    left
    show ∃ t, Chart_tellShares_l64 (nI (tIn T)) (nI r - 1) S1 x3 x4 (nI i) = some (.inl t) ∧ _
    unfold Chart_tellShares_l64
    rw [if_neg (by rw [mb_le (by omega) (by omega)]; omega)]
    by_cases c : nI r - 1 < x4
    · rw [if_pos c, hsk c]
      exact tail S1 (agC.rf S1)
    · obtain ⟨S2, h2, a2⟩ := c_shareNow hw hK1 hvv
      rw [if_neg c, h2, mb_bd2]
      exact tail S2 a2
  · intro q hI
    obtain ⟨S1, x3, x4, x5⟩ := q
    obtain ⟨e1, a1, v1, hv⟩ := hI
    dsimp only at e1 a1 v1 hv
    subst e1
    refine ⟨S1, ?_, a1, v1⟩
    show Chart_tellShares_l64 (nI (tIn T)) (nI r - 1) S1 x3 x4 (nI (tIn T)) = _
    unfold Chart_tellShares_l64
    rw [if_pos (by rw [mb_le (by omega) (by omega)]; omega)]
