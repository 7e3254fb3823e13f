/-! the class: the table of bins, meets, cross, quarrel, alone -/
variable {T : Tx} {on tn : Nat} {lg : List Nat} {tb : Nat → Int32} {pl : Int32} {S S' : St}
theorem cInv.b8 (h : cInv T on lg tn tb pl S) (h7 : gI S 8 8 = 0) (a : agC [(8, 6)] [(8, 0), (8, 1), (8, 2)] [] S S') : cInv T on lg tn tb pl S' := by
  obtain ⟨hw, hT, hK, hN, hM, hF, hS, hU, hL, hX, hY, hZ, hC⟩ := h
  refine ⟨hw, hT.ag a (by decide), hK.ag a (by decide) (by decide), hN.ag a, hM.ag a (by decide) (by decide), hF.ag a (by decide) (by decide), hS.ag a (by decide) (by decide), hU.ag a (by decide) (by decide), hL.ag a (by decide) (by decide), ?_, hY.ag a (by decide) (by decide), hZ.ag a (by decide) (by decide), hC.ag a (by decide) (by decide)⟩
  intro z
  rw [a.1 8 8 (by decide)] at z
  exact absurd h7 z
theorem nI_255 {m : Nat} (h : m < 256) : nI m &&& (255 : Int32) = nI m := by
  rw [show (255 : Int32) = nI 255 from rfl, nI_and, lt_and255 h]
/-- more places than numbers: two have the same -/
theorem pg_hole : ∀ (N m : Nat) (f : Nat → Nat), (∀ i, i < m → f i < N) → (∀ i j, i < j → j < m → ¬ f i = f j) → m ≤ N
  | 0, m, f, h1, _ => by
    rcases Nat.eq_zero_or_pos m with z | z
    · omega
    · exact absurd (h1 0 z) (Nat.not_lt_zero _)
  | N + 1, m, f, h1, h2 => by
    by_cases c : ∃ i, i < m ∧ f i = N
    · obtain ⟨a, ha, ea⟩ := c
      have key : m - 1 ≤ N := by
        refine pg_hole N (m - 1) (fun i => if i < a then f i else f (i + 1)) (fun i hi => ?_) (fun i j hij hj => ?_)
        · show (if i < a then f i else f (i + 1)) < N
          by_cases z : i < a
          · have q1 := h1 i (by omega)
            have q2 := h2 i a z ha
            rw [if_pos z]
            omega
          · have q1 := h1 (i + 1) (by omega)
            have q2 := h2 a (i + 1) (by omega) (by omega)
            rw [if_neg z]
            omega
        · show ¬ (if i < a then f i else f (i + 1)) = (if j < a then f j else f (j + 1))
          by_cases z : i < a
          · by_cases z2 : j < a
            · rw [if_pos z, if_pos z2]
              exact h2 i j hij (by omega)
            · rw [if_pos z, if_neg z2]
              exact h2 i (j + 1) (by omega) (by omega)
          · rw [if_neg z, if_neg (by omega)]
            exact h2 (i + 1) (j + 1) (by omega) (by omega)
      omega
    · refine Nat.le_succ_of_le (pg_hole N m f (fun i hi => ?_) h2)
      have q1 := h1 i hi
      have q2 : ¬ f i = N := fun z => c ⟨i, hi, z⟩
      omega
theorem SN.le {n m : Nat} {fk : Nat → Nat} (hw : wfT T) (h : SN T on n m fk) : m ≤ 256 :=
  pg_hole 256 m (fun i => bq T on (fk i)) (fun i _ => bq_lt hw on _) (fun i j hij hj => (h.2.1 i j hij hj).2)
theorem SN.same {n m j : Nat} {fk : Nat → Nat} (h : SN T on n m fk) (hj : j < n) (e : bq T on j = bq T on n) : SN T on (n + 1) m fk := by
  refine ⟨fun i hi => Nat.lt_succ_of_lt (h.1 i hi), h.2.1, fun k hk => ?_⟩
  by_cases c : k < n
  · exact h.2.2 k c
  · have ek : k = n := by omega
    obtain ⟨i, h1, h2, h3⟩ := h.2.2 j hj
    exact ⟨i, h1, by omega, by rw [h3, e, ek]⟩
theorem SN.more {n m : Nat} {fk : Nat → Nat} (h : SN T on n m fk) (hn : ∀ j, j < n → ¬ bq T on j = bq T on n) : SN T on (n + 1) (m + 1) (fun i => if i < m then fk i else n) := by
  have hlt : ∀ i, i < m → (if i < m then fk i else n) = fk i := fun i hi => if_pos hi
  have hge : ∀ i, ¬ i < m → (if i < m then fk i else n) = n := fun i hi => if_neg hi
  refine ⟨fun i hi => ?_, fun i j hij hj => ?_, fun k hk => ?_⟩
  · show (if i < m then fk i else n) < n + 1
    by_cases c : i < m
    · rw [hlt i c]
      have := h.1 i c
      omega
    · rw [hge i c]
      omega
  · show (if i < m then fk i else n) < (if j < m then fk j else n) ∧ ¬ bq T on (if i < m then fk i else n) = bq T on (if j < m then fk j else n)
    have ci : i < m := by omega
    rw [hlt i ci]
    by_cases c : j < m
    · rw [hlt j c]
      exact h.2.1 i j hij c
    · rw [hge j c]
      exact ⟨h.1 i ci, hn _ (h.1 i ci)⟩
  · by_cases c : k < n
    · obtain ⟨i, h1, h2, h3⟩ := h.2.2 k c
      refine ⟨i, by omega, ?_, ?_⟩
      · show (if i < m then fk i else n) ≤ k
        rw [hlt i h1]
        exact h2
      · show bq T on (if i < m then fk i else n) = _
        rw [hlt i h1]
        exact h3
    · have ek : k = n := by omega
      refine ⟨m, by omega, ?_, ?_⟩
      · show (if m < m then fk m else n) ≤ k
        rw [hge m (by omega)]
        omega
      · show bq T on (if m < m then fk m else n) = _
        rw [hge m (by omega), ek]
theorem cN_bq0 (s : Nat) : ∀ k, k ≤ (lwS T on).length → (cN (fun x => Nat.beq (bN T 2 x) s) ((lwS T on).take k) = 0 ↔ ∀ j, j < k → ¬ bq T on j = s)
  | 0, _ => ⟨fun _ j hj => absurd hj (Nat.not_lt_zero j), fun _ => rfl⟩
  | k + 1, hk => by
    have ih := cN_bq0 s k (by omega)
    have hg := get_some (show k < (lwS T on).length by omega)
    rw [cN_take _ hg]
    have e : Nat.beq (bN T 2 ((lwS T on).getD k 0)) s = Nat.beq (bq T on k) s := rfl
    rw [e]
    cases hb : Nat.beq (bq T on k) s with
    | true =>
      constructor
      · intro z
        have z : _ + 1 = 0 := z
        omega
      · intro z
        exact absurd (Nat.eq_of_beq_eq_true hb) (z k (by omega))
    | false =>
      have hne : ¬ bq T on k = s := by
        intro z
        rw [z, Nat.beq_refl] at hb
        cases hb
      constructor
      · intro z j hj
        by_cases c : j < k
        · exact ih.mp z j c
        · have : j = k := by omega
          rw [this]
          exact hne
      · intro z
        exact ih.mpr (fun j hj => z j (by omega))
theorem c_binsRefresh (h : cInv T on lg tn tb pl S) (hf : ¬ gI S 4 16 = 0) (h14 : ¬ gI S 4 14 = 0) : ∃ S', f_Bins_refresh S = some S' ∧ cInv T on lg tn tb pl S' ∧ agC [(8, 6), (8, 8)] [(8, 0), (8, 1), (8, 2)] [] S S' ∧ ¬ gI S' 8 8 = 0 := by
  have hw := h.1
  have n8 := hw.2.2.2.1 2 (by decide)
  have hlen := lwS_len hw on
  unfold f_Bins_refresh
  by_cases c : gI S 8 8 = 0
  · rw [if_pos c]
    obtain ⟨S1, h1, a1, v1⟩ := c_fill (o := 8) (k := 0) (n := 256) (S := S) 0 (fun _ _ => rfl) (by decide)
    rw [h1, mb_bd, mb_nm]
    have a02 : agC [(8, 6)] [(8, 0), (8, 1), (8, 2)] [] S (pI S1 8 6 0) := (a1.wk (by decide) (by decide) (by decide)).tr (agC.pI S1 8 6 _ (by decide))
    have key := wh_ix (f := un2 Bins_refresh_l23) (s := (pI S1 8 6 0, (0 : Int32))) (lwS T on).length (fun k q => q.2 = nI k ∧ agC [(8, 6)] [(8, 0), (8, 1), (8, 2)] [] S q.1 ∧ (∀ set, set < 256 → gA q.1 8 0 set = nI (cN (fun x => Nat.beq (bN T 2 x) set) ((lwS T on).take k))) ∧ SR T on k q.1) (fun S' => agC [(8, 6)] [(8, 0), (8, 1), (8, 2)] [] S S' ∧ (∀ set, set < 256 → gA S' 8 0 set = nI (cN (fun x => Nat.beq (bN T 2 x) set) (lwS T on))) ∧ SR T on (lwS T on).length S') ⟨rfl, a02, fun set hs => ?_, 0, fun _ => 0, by decide, ?_, ⟨fun i hi => absurd hi (Nat.not_lt_zero i), fun i j _ hj => absurd hj (Nat.not_lt_zero j), fun k hk => absurd hk (Nat.not_lt_zero k)⟩, fun i hi => absurd hi (Nat.not_lt_zero i)⟩ ?_ ?_
    · obtain ⟨S3, h3, a3, v3, r3⟩ := key
      have hi3 := h.b8 c a3
      rw [h3, mb_bd, show f_Book_toldOf 5 S3 2 = _ from c_toldOf hi3.2.2.1.1 (s := 2) (by decide), mb_bd]
      obtain ⟨S4, h4, a4, v4⟩ := c_supers (o := 8) (k := 0) (S := S3) (fun _ _ => rfl) n8 (fun x => bN_ltp T 2 x) v3
      rw [h4, mb_bd, mb_nm]
      have a4' : agC [(8, 6)] [(8, 0), (8, 1), (8, 2)] [] S S4 := a3.tr (a4.wk (by decide) (by decide) (by decide))
      have hi4 := h.b8 c a4'
      have a5 : agC [(8, 8)] [] [] S4 (pI S4 8 8 1) := agC.pI S4 8 8 _ (by decide)
      obtain ⟨-, hT, hK, hN, hM, hF, hS, hU, hL, hX, hY, hZ, hC⟩ := hi4
      refine ⟨_, rfl, ⟨hw, hT.ag a5 (by decide), hK.ag a5 (by decide) (by decide), hN.ag a5, hM.ag a5 (by decide) (by decide), hF.ag a5 (by decide) (by decide), hS.ag a5 (by decide) (by decide), hU.ag a5 (by decide) (by decide), hL.ag a5 (by decide) (by decide), fun _ => ⟨fun set hs => ?_, ?_⟩, hY.ag a5 (by decide) (by decide), ?_, hC.ag a5 (by decide) (by decide)⟩, (a4'.wk (by decide) (by decide) (by decide)).tr (a5.wk (by decide) (by decide) (by decide)), ?_⟩
      · rw [a5.2.1 8 0 (by decide)]; exact v4 set hs
      · unfold SR at r3 ⊢
        rw [a5.1 8 6 (by decide), a4.1 8 6 (by decide), a5.2.1 8 1 (by decide), a4.2.1 8 1 (by decide), a5.2.1 8 2 (by decide), a4.2.1 8 2 (by decide)]
        exact r3
      · intro z
        rw [a5.1 8 10 (by decide), a4'.1 8 10 (by decide)] at z
        exact absurd c (h.2.2.2.2.2.2.2.2.2.2.2.1 z).1
      · rw [mb_II, if_pos ⟨rfl, rfl⟩]; decide
    · show gA S1 8 0 set = _
      rw [v1 set hs, List.take_zero]
      rfl
    · show gI (pI S1 8 6 0) 8 6 = _
      rw [mb_II, if_pos ⟨rfl, rfl⟩]
      rfl
    · intro k q hk hI
      obtain ⟨S3, x⟩ := q
      obtain ⟨e1, a3, v3, m, fk, hm8, em, hSN, hrow⟩ := hI
      dsimp only at e1 a3 v3 em hrow
      subst e1
      have hi3 := h.b8 c a3
      have hg := get_some hk
      have hlt := lwS_lt hg
      have hb : bq T on k < 256 := bq_lt hw on k
      have hin := c_inputOf hi3 (by rw [a3.1 4 16 (by decide)]; exact hf) hg
      have hbi := c_binsOf hi3 (by rw [a3.1 4 14 (by decide)]; exact h14) hlt
      have hbi : f_Chart_binsOf S3 (nI ((lwS T on).getD k 0)) = some (nI (bq T on k)) := hbi
      have e9 : gI S3 4 9 = nI (lwS T on).length := by rw [a3.1 4 9 (by decide)]; exact (h.2.2.2.2.2.1.2.2 hf).2.1
      have hcn : ∀ set, cN (fun x => Nat.beq (bN T 2 x) set) ((lwS T on).take (k + 1)) = cN (fun x => Nat.beq (bN T 2 x) set) ((lwS T on).take k) + cond (Nat.beq (bq T on k) set) 1 0 := fun set => cN_take _ hg
      have hcl := cN_tle (fun x => Nat.beq (bN T 2 x) (bq T on k)) (lwS T on) k
      have hne : ∀ set, ¬ set = bq T on k → Nat.beq (bq T on k) set = false := by
        intro set hs
        cases hb : Nat.beq (bq T on k) set with
        | false => rfl
        | true => exact absurd (Nat.eq_of_beq_eq_true hb).symm hs
      have hone : nI (cN (fun x => Nat.beq (bN T 2 x) (bq T on k)) ((lwS T on).take k)) + 1 = nI (cN (fun x => Nat.beq (bN T 2 x) (bq T on k)) ((lwS T on).take (k + 1))) := by
        rw [nI_1, hcn, Nat.beq_refl]
        rfl
      -- the last part: one more of this set
      have last : ∀ S4 : St, agC [(8, 6)] [(8, 0), (8, 1), (8, 2)] [] S S4 → (∀ set, gA S4 8 0 set = gA S3 8 0 set) → SR T on (k + 1) S4 → ∃ t, Bins_refresh_j94_l23 S4 (nI k) (nI (bq T on k)) = some (.inl t) ∧ (t.2 = nI (k + 1) ∧ agC [(8, 6)] [(8, 0), (8, 1), (8, 2)] [] S t.1 ∧ (∀ set, set < 256 → gA t.1 8 0 set = nI (cN (fun x => Nat.beq (bN T 2 x) set) ((lwS T on).take (k + 1)))) ∧ SR T on (k + 1) t.1) := by
        intro S4 a4 e4 r4
        refine ⟨(pA S4 8 0 (bq T on k) (nI (cN (fun x => Nat.beq (bN T 2 x) (bq T on k)) ((lwS T on).take (k + 1)))), nI (k + 1)), ?_, rfl, a4.tr (agC.pA S4 8 0 _ _ (by decide)), fun set hs => ?_, ?_⟩
        · unfold Bins_refresh_j94_l23
          rw [mb_in hb (by decide), mb_gd, mb_gd, mb_nm, mb_nm, mb_cl (by omega), e4, v3 _ hb, hone, nI_1]
        · show gA (pA S4 8 0 _ _) 8 0 set = _
          rw [mb_AA]
          by_cases e : set = bq T on k
          · rw [if_pos ⟨rfl, rfl, e⟩, e]
          · rw [if_neg (fun z => e z.2.2), e4, v3 set hs, hcn set, hne set e]
            rfl
        · obtain ⟨m', fk', q1, q2, q3, q4⟩ := r4
          refine ⟨m', fk', q1, q2, q3, fun i hi => ?_⟩
          have q := q4 i hi
          show gA (pA S4 8 0 _ _) 8 1 i = _ ∧ gA (pA S4 8 0 _ _) 8 2 i = _
          rw [mb_AA, if_neg (fun z => by omega), mb_AA, if_neg (fun z => by omega)]
          exact q
      left
      show ∃ t, Bins_refresh_l23 S3 (nI k) = some (.inl t) ∧ _
      unfold Bins_refresh_l23
      rw [e9, if_neg (by rw [mb_le (by omega) (by omega)]; omega), hin, mb_bd, hbi, mb_bd, mb_nm, nI_255 hb, mb_in hb (by decide), mb_gd, mb_cl (by omega), v3 _ hb]
      by_cases cz : cN (fun x => Nat.beq (bN T 2 x) (bq T on k)) ((lwS T on).take k) = 0
      · have hno := (cN_bq0 (T := T) (on := on) (bq T on k) k (by omega)).mp cz
        have hM := hSN.more hno
        have hm1 := hM.le hw
        rw [if_pos (by rw [cz]; rfl), em, l256, if_neg (by rw [mb_le (by omega) (by omega)]; omega), mb_in (show m < 256 by omega) (by decide), mb_gd, mb_nm, mb_cl (show m < 2147483648 by omega), mb_IA, em, mb_in (show m < 256 by omega) (by decide), mb_gd, mb_nm, mb_cl (show m < 2147483648 by omega), mb_IA, mb_IA, em, mb_nm, nI_1]
        refine last _ ((a3.tr (agC.pA S3 8 1 _ _ (by decide))).tr ((agC.pA _ 8 2 _ _ (by decide)).tr (agC.pI _ 8 6 _ (by decide)))) (fun set => ?_) ⟨m + 1, _, hm1, ?_, hM, fun i hi => ?_⟩
        · rw [mb_AI, mb_AA, if_neg (fun z => by omega), mb_AA, if_neg (fun z => by omega)]
        · rw [mb_II, if_pos ⟨rfl, rfl⟩]
        · show gA (pI (pA (pA S3 8 1 m _) 8 2 m _) 8 6 _) 8 1 i = nI (bq T on (if i < m then fk i else k)) ∧ gA (pI (pA (pA S3 8 1 m _) 8 2 m _) 8 6 _) 8 2 i = nI (if i < m then fk i else k)
          by_cases e : i = m
          · subst e
            rw [if_neg (Nat.lt_irrefl i)]
            constructor
            · rw [mb_AI, mb_AA, if_neg (fun z => by omega), mb_AA, if_pos ⟨rfl, rfl, rfl⟩]
            · rw [mb_AI, mb_AA, if_pos ⟨rfl, rfl, rfl⟩]
          · rw [if_pos (show i < m by omega)]
            obtain ⟨r1, r2⟩ := hrow i (by omega)
            constructor
            · rw [mb_AI, mb_AA, if_neg (fun z => by omega), mb_AA, if_neg (fun z => e z.2.2)]
              exact r1
            · rw [mb_AI, mb_AA, if_neg (fun z => e z.2.2), mb_AA, if_neg (fun z => by omega)]
              exact r2
      · have hex : ∃ j, j < k ∧ bq T on j = bq T on k := by
          refine Classical.byContradiction (fun z => cz ((cN_bq0 (T := T) (on := on) (bq T on k) k (by omega)).mpr (fun j hj e => z ⟨j, hj, e⟩)))
        obtain ⟨j, hj, ej⟩ := hex
        rw [if_neg (by rw [l0, mb_eq (by omega) (by omega)]; exact cz)]
        exact last S3 a3 (fun _ => rfl) ⟨m, fk, hm8, em, hSN.same hj ej, hrow⟩
    · intro q hI
      obtain ⟨S3, x⟩ := q
      obtain ⟨e1, a3, v3, r3⟩ := hI
      dsimp only at e1 a3 v3 r3
      subst e1
      rw [List.take_length] at v3
      have e9 : gI S3 4 9 = nI (lwS T on).length := by rw [a3.1 4 9 (by decide)]; exact (h.2.2.2.2.2.1.2.2 hf).2.1
      refine ⟨S3, ?_, a3, v3, r3⟩
      show Bins_refresh_l23 S3 (nI (lwS T on).length) = _
      unfold Bins_refresh_l23
      rw [e9, if_pos (by rw [mb_le (by omega) (by omega)]; omega)]
  · rw [if_neg c]
    exact ⟨S, rfl, h, agC.rf S, c⟩
theorem c_lotsBins (h : cInv T on lg tn tb pl S) : ∃ S', f_Lots_refreshBins S = some S' ∧ cInv T on lg tn tb pl S' ∧ ¬ gI S' 4 16 = 0 ∧ ¬ gI S' 4 14 = 0 ∧ ¬ gI S' 8 8 = 0 ∧ Ph S + kMark S ≤ Ph S' := by
  obtain ⟨S1, h1, hi, hf, h14, hp⟩ := c_refreshBins h
  obtain ⟨S2, h2, hi2, a2, h7⟩ := c_binsRefresh hi hf h14
  unfold f_Lots_refreshBins
  rw [h1, mb_bd, h2, mb_bd]
  refine ⟨S2, rfl, hi2, by rw [a2.1 4 16 (by decide)]; exact hf, by rw [a2.1 4 14 (by decide)]; exact h14, h7, ?_⟩
  unfold Ph at hp ⊢
  rw [a2.2.2.2]
  exact hp
theorem c_meetingAll (h : cInv T on lg tn tb pl S) (h7 : ¬ gI S 8 8 = 0) {m : Nat} (hm : m < 256) : f_Bins_meetingAll S (nI m) = some (nI (spMeet T on m)) := by
  unfold f_Bins_meetingAll
  rw [nI_255 hm, mb_in hm (by decide), mb_gd, mb_cl (by omega), (h.2.2.2.2.2.2.2.2.2.1 h7).1 m hm]
theorem cc_meets (h : cInv T on lg tn tb pl S) (x : Int32) : ∃ S', f_Lots_meets S x = some (spMeets T on x, S') ∧ cInv T on lg tn tb pl S' ∧ Ph S + kBin S x ≤ Ph S' := by
  have hw := h.1
  have n8 := hw.2.2.2.1 2 (by decide)
  unfold f_Lots_meets kBin
  rw [show f_Book_has S 2 x = _ from c_has h.2.2.1.1 (s := 2) (by decide) x, mb_bd]
  unfold ixB spMeets
  cases hx : ixN x (tNt T 2) with
  | none =>
    dsimp only
    rw [if_pos rfl, if_pos rfl]
    exact ⟨S, rfl, h, Nat.le_refl _⟩
  | some b =>
    obtain ⟨hb, rfl, -, -⟩ := ixN_s (by omega) hx
    dsimp only
    rw [if_neg (by decide), if_neg (by decide)]
    obtain ⟨S1, h1, hi, hf, h14, h7, hp⟩ := c_lotsBins h
    rw [h1, mb_bd, sh_bit b (by omega), c_meetingAll hi h7 (pow_lt8 (by omega)), mb_bd]
    exact ⟨S1, rfl, hi, hp⟩
theorem cc_cross (h : cInv T on lg tn tb pl S) (x y : Int32) : ∃ S', f_Lots_cross S x y = some (spCross T on x y, S') ∧ cInv T on lg tn tb pl S' ∧ Ph S + kCross S x y ≤ Ph S' := by
  have hw := h.1
  have n8 := hw.2.2.2.1 2 (by decide)
  unfold f_Lots_cross kCross Lots_cross_j30
  rw [show f_Book_has S 2 x = _ from c_has h.2.2.1.1 (s := 2) (by decide) x, mb_bd, show f_Book_has S 2 y = _ from c_has h.2.2.1.1 (s := 2) (by decide) y, mb_bd]
  unfold ixB spCross
  cases hx : ixN x (tNt T 2) with
  | none =>
    dsimp only
    rw [if_pos (show (0 : Int32) = 0 from rfl), if_pos (show (0 : Int32) = 0 from rfl)]
    exact ⟨S, rfl, h, Nat.le_refl _⟩
  | some b =>
    obtain ⟨hb, rfl, -, -⟩ := ixN_s (by omega) hx
    dsimp only
    rw [if_neg (show ¬ (1 : Int32) = 0 by decide), if_neg (show ¬ (1 : Int32) = 0 by decide)]
    cases hy : ixN y (tNt T 2) with
    | none =>
      dsimp only
      rw [if_pos (show (0 : Int32) = 0 from rfl), if_pos (show (0 : Int32) = 0 from rfl)]
      exact ⟨S, rfl, h, Nat.le_refl _⟩
    | some d =>
      obtain ⟨hd, rfl, -, -⟩ := ixN_s (by omega) hy
      dsimp only
      rw [if_neg (show ¬ (1 : Int32) = 0 by decide), if_neg (show ¬ (1 : Int32) = 0 by decide)]
      obtain ⟨S1, h1, hi, hf, h14, h7, hp⟩ := c_lotsBins h
      rw [h1, mb_bd, sh_bit b (by omega), sh_bit d (by omega), nI_or, c_meetingAll hi h7 (or_lt8 (pow_lt8 (by omega)) (pow_lt8 (by omega))), mb_bd]
      exact ⟨S1, rfl, hi, hp⟩
