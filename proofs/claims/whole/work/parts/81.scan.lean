/-! the class cuts -/
def agG (LI LA LB LL : List (Nat × Nat)) (S S' : St) : Prop := agC LI LA LB S S' ∧ ∀ o k, (o, k) ∉ LL → gL S' o k = gL S o k
section AGG
variable {LI LA LB LL LI' LA' LB' LL' : List (Nat × Nat)} {A B C : St}
theorem agG.rf (S : St) : agG LI LA LB LL S S := ⟨agC.rf S, fun _ _ _ => rfl⟩
theorem agG.tr (h1 : agG LI LA LB LL A B) (h2 : agG LI LA LB LL B C) : agG LI LA LB LL A C := ⟨h1.1.tr h2.1, fun o k hk => (h2.2 o k hk).trans (h1.2 o k hk)⟩
theorem agG.wk (h : agG LI LA LB LL A B) (h1 : ∀ q, q ∈ LI → q ∈ LI') (h2 : ∀ q, q ∈ LA → q ∈ LA') (h3 : ∀ q, q ∈ LB → q ∈ LB') (h4 : ∀ q, q ∈ LL → q ∈ LL') : agG LI' LA' LB' LL' A B := ⟨h.1.wk h1 h2 h3, fun o k hk => h.2 o k (fun q => hk (h4 _ q))⟩
theorem agG.pI (S : St) (o k : Nat) (v : Int32) (hk : (o, k) ∈ LI) : agG LI LA LB LL S (pI S o k v) := ⟨agC.pI S o k v hk, fun _ _ _ => rfl⟩
theorem agG.pA (S : St) (o k j : Nat) (v : Int32) (hk : (o, k) ∈ LA) : agG LI LA LB LL S (pA S o k j v) := ⟨agC.pA S o k j v hk, fun _ _ _ => rfl⟩
theorem agG.pB (S : St) (o k j : Nat) (v : Int64) (hk : (o, k) ∈ LB) : agG LI LA LB LL S (pB S o k j v) := ⟨agC.pB S o k j v hk, fun _ _ _ => rfl⟩
theorem agG.pL (S : St) (o k : Nat) (v : Int64) (hk : (o, k) ∈ LL) : agG LI LA LB LL S (pL S o k v) := ⟨agC.pL S o k v, fun a b hq => by
  rw [mb_LL, if_neg]
  intro z
  rw [z.1, z.2] at hq
  exact hq hk⟩
theorem agG.i (h : agG LI LA LB LL A B) (o k : Nat) (hk : (o, k) ∉ LI) : gI B o k = gI A o k := h.1.1 o k hk
theorem agG.a (h : agG LI LA LB LL A B) (o k : Nat) (hk : (o, k) ∉ LA) : gA B o k = gA A o k := h.1.2.1 o k hk
theorem agG.b (h : agG LI LA LB LL A B) (o k : Nat) (hk : (o, k) ∉ LB) : gB B o k = gB A o k := h.1.2.2.1 o k hk
theorem agG.l (h : agG LI LA LB LL A B) (o k : Nat) (hk : (o, k) ∉ LL) : gL B o k = gL A o k := h.2 o k hk
end AGG
theorem gI_s (S : St) (o k : Nat) (v : Int32) : gI (pI S o k v) o k = v := by rw [mb_II, if_pos ⟨rfl, rfl⟩]
theorem gI_n (S : St) {o k a b : Nat} (v : Int32) (h : ¬ (a = o ∧ b = k)) : gI (pI S o k v) a b = gI S a b := by rw [mb_II, if_neg h]
theorem gA_s (S : St) (o k j : Nat) (v : Int32) : gA (pA S o k j v) o k j = v := by rw [mb_AA, if_pos ⟨rfl, rfl, rfl⟩]
theorem gA_n (S : St) {o k j a b c : Nat} (v : Int32) (h : ¬ (a = o ∧ b = k ∧ c = j)) : gA (pA S o k j v) a b c = gA S a b c := by rw [mb_AA, if_neg h]
theorem gB_s (S : St) (o k j : Nat) (v : Int64) : gB (pB S o k j v) o k j = v := by rw [mb_BB, if_pos ⟨rfl, rfl, rfl⟩]
theorem gB_n (S : St) {o k j a b c : Nat} (v : Int64) (h : ¬ (a = o ∧ b = k ∧ c = j)) : gB (pB S o k j v) a b c = gB S a b c := by rw [mb_BB, if_neg h]
theorem gL_s (S : St) (o k : Nat) (v : Int64) : gL (pL S o k v) o k = v := by rw [mb_LL, if_pos ⟨rfl, rfl⟩]
theorem gL_n (S : St) {o k a b : Nat} (v : Int64) (h : ¬ (a = o ∧ b = k)) : gL (pL S o k v) a b = gL S a b := by rw [mb_LL, if_neg h]
def TX (v : Nat → Nat) (n : Nat) (S : St) : Prop := n ≤ 2000 ∧ ∀ j, j < n → gA S 0 0 j = sx (v j) ∧ v j < 256
variable {v : Nat → Nat} {n : Nat} {S S' : St}
theorem sx_nI : ∀ c, c < 128 → sx c = nI c ∧ (sx c).toInt64 = lN c := by decide +kernel
theorem shl8_I (a : Nat) {c : Nat} (hc : c < 128) : (lN a <<< ((8 : Int32).toInt64 &&& 63)) ||| (sx c).toInt64 = lN (256 * a + c) := by
  rw [(sx_nI c hc).2]
  apply Int64.toBitVec_inj.mp
  rw [Int64.toBitVec_or, Int64.toBitVec_shiftLeft]
  show (BitVec.ofNat 64 a) <<< 8 ||| BitVec.ofNat 64 c = BitVec.ofNat 64 (256 * a + c)
  have e : BitVec.ofNat 64 a <<< 8 = BitVec.ofNat 64 (256 * a) := by
    apply BitVec.eq_of_toNat_eq
    rw [BitVec.toNat_shiftLeft, BitVec.toNat_ofNat, BitVec.toNat_ofNat, Nat.shiftLeft_eq, Nat.mod_mul_mod, Nat.mul_comm]
  rw [e, ← BitVec.ofNat_or]
  congr 1
  have := Nat.two_pow_add_eq_or_of_lt (show c < 2 ^ 8 by omega) a
  rw [show (2 : Nat) ^ 8 = 256 from rfl] at this
  exact this.symm
theorem sc_blank (hx : TX v n S) (h1 : gI S 2 1 = nI n) {p : Nat} (hp : p ≤ n) (h2 : gI S 2 2 = nI p) : ∃ S', wh Scanner_advance_l0 S = some S' ∧ agG [(2, 2)] [] [] [] S S' ∧ gI S' 2 2 = nI (rnE isBl v n p) := by
  have hn := hx.1
  obtain ⟨q1, q2⟩ := rnE_le (v := v) isBl hp
  refine wh_ix (f := Scanner_advance_l0) (s := S) (rnE isBl v n p - p) (fun i S1 => agG [(2, 2)] [] [] [] S S1 ∧ gI S1 2 2 = nI (p + i)) (fun S' => agG [(2, 2)] [] [] [] S S' ∧ gI S' 2 2 = nI (rnE isBl v n p)) ⟨agG.rf S, h2⟩ ?_ ?_
  · intro i S1 hi hI
    obtain ⟨a1, e1⟩ := hI
    have hl : gI S1 2 1 = nI n := by rw [a1.i 2 1 (by decide)]; exact h1
    have hb := rnE_in (P := isBl) (v := v) (n := n) (a := p) (j := p + i) (by omega) (by omega)
    obtain ⟨t1, t2⟩ := hx.2 (p + i) (by omega)
    left
    refine ⟨pI S1 2 2 (nI (p + (i + 1))), ?_, a1.tr (agG.pI S1 2 2 _ (by decide)), by rw [mb_II, if_pos ⟨rfl, rfl⟩]⟩
    unfold Scanner_advance_l0
    rw [hl, e1, if_neg (by rw [mb_le (by omega) (by omega)]; omega), mb_in (by omega) (by decide), mb_gd, mb_cl (by omega), a1.a 0 0 (by decide), t1, sx_bl _ t2, mb_bd, hb, if_neg (by decide), mb_nm, nI_1]
    rfl
  · intro S1 hI
    obtain ⟨a1, e1⟩ := hI
    rw [show p + (rnE isBl v n p - p) = rnE isBl v n p by omega] at e1
    have hl : gI S1 2 1 = nI n := by rw [a1.i 2 1 (by decide)]; exact h1
    refine ⟨S1, ?_, a1, e1⟩
    unfold Scanner_advance_l0
    rw [hl, e1]
    by_cases c : n ≤ rnE isBl v n p
    · rw [if_pos (by rw [mb_le (by omega) (by omega)]; exact c)]
    · have hb := rnE_out (P := isBl) (v := v) hp (by omega)
      obtain ⟨t1, t2⟩ := hx.2 (rnE isBl v n p) (by omega)
      rw [if_neg (by rw [mb_le (by omega) (by omega)]; exact c), mb_in (by omega) (by decide), mb_gd, mb_cl (by omega), a1.a 0 0 (by decide), t1, sx_bl _ t2, mb_bd, hb, if_pos (by rfl)]
theorem chR_al {p : Nat} : ∀ i, (∀ j, j < i → isAl (v (p + j)) = true) → alW (chR v p i)
  | 0, _ => fun c hc => absurd hc List.not_mem_nil
  | i + 1, h => fun c hc => by
    rcases List.mem_cons.mp hc with e | e
    · rw [e]; exact h i (by omega)
    · exact chR_al i (fun j hj => h j (by omega)) c e
theorem chR_len (p : Nat) : ∀ i, (chR v p i).length = i
  | 0 => rfl
  | i + 1 => by
    show (chR v p i).length + 1 = i + 1
    rw [chR_len p i]
theorem sc_word {w : List Nat} (hw : alW w) (hl : w.length ≤ 8) (h6 : gL S 2 6 = lN (encC w)) : f_Scanner_wordOrName S = some (nI (wKd w)) := by
  have hc : ∀ k, k < 13 → (lg_cmp (wdF k) (gL S 2 6) = 0 ↔ wdM.getD k [] = w) := by
    intro k hk
    have h5 := (wdM_al k hk).2
    rw [lg_cmp_eq, wdF_C k hk, h6]
    exact encC_eq (wdM_alW hk) hw (by omega) hl
  have key := wh_ix (f := Scanner_wordOrName_l2 S) (s := (0 : Int32)) 13 (fun k x => x = nI k ∧ wix w k = none) (fun r => r = nI (wKd w)) ⟨rfl, rfl⟩ ?_ ?_
  · obtain ⟨r, h1, h2⟩ := key
    unfold f_Scanner_wordOrName
    rw [h1, h2]
  · intro k x hk hI
    obtain ⟨e1, e2⟩ := hI
    subst e1
    have body : Scanner_wordOrName_l2 S (nI k) = (if lg_cmp (wdF k) (gL S 2 6) = 0 then some (.inr (nI (14 + k))) else some (.inl (nI (k + 1)))) := by
      unfold Scanner_wordOrName_l2
      rw [if_neg (by rw [mb_le (by omega) (by omega)]; omega), mb_in (by omega) (by decide), mb_gd, mb_cl (by omega), mb_nm, nI_1, show (14 : Int32) = nI 14 from rfl, nI_add]
    have hs : wix w (k + 1) = (match wix w k with | some j => some j | none => if wdM.getD k [] = w then some k else none) := rfl
    rw [e2] at hs
    dsimp only at hs
    by_cases c : wdM.getD k [] = w
    · right
      refine ⟨nI (14 + k), ?_, ?_⟩
      · rw [body, if_pos ((hc k hk).mpr c)]
      · rw [if_pos c] at hs
        have hup : ∀ m, k + 1 ≤ m → wix w m = some k := by
          intro m hm
          induction hm with
          | refl => exact hs
          | @step m _ ih =>
            show (match wix w m with | some j => some j | none => _) = _
            rw [ih]
        unfold wKd
        rw [hup 13 (by omega)]
    · left
      refine ⟨nI (k + 1), ?_, rfl, ?_⟩
      · rw [body, if_neg (fun z => c ((hc k hk).mp z))]
      · rw [hs, if_neg c]
  · intro x hI
    obtain ⟨e1, e2⟩ := hI
    subst e1
    refine ⟨nI 2, ?_, ?_⟩
    · unfold Scanner_wordOrName_l2
      rw [if_pos (by decide)]
      rfl
    · unfold wKd
      rw [e2]
theorem sc_name (hx : TX v n S) (h1 : gI S 2 1 = nI n) {p : Nat} (hp : p < n) (h2 : gI S 2 2 = nI p) (h4 : gI S 2 4 = nI p) : ∃ S', f_Scanner_scanName S = some S' ∧ agG [(2, 2), (2, 3)] [] [] [(2, 6)] S S' ∧ gI S' 2 2 = nI (rnE isAl v n p) ∧ gI S' 2 3 = nI (if rnE isAl v n p - p ≤ 8 then wKd (chR v p (rnE isAl v n p - p)) else 1) ∧ gL S' 2 6 = lN (encC (chR v p (rnE isAl v n p - p))) := by
  have hn := hx.1
  obtain ⟨q1, q2⟩ := rnE_le (v := v) isAl (Nat.le_of_lt hp)
  have key := wh_ix (f := Scanner_scanName_l5) (s := pL S 2 6 0) (rnE isAl v n p - p) (fun i S1 => agG [(2, 2)] [] [] [(2, 6)] S S1 ∧ gI S1 2 2 = nI (p + i) ∧ gL S1 2 6 = lN (encC (chR v p i))) (fun S' => agG [(2, 2)] [] [] [(2, 6)] S S' ∧ gI S' 2 2 = nI (rnE isAl v n p) ∧ gL S' 2 6 = lN (encC (chR v p (rnE isAl v n p - p)))) ⟨agG.pL S 2 6 _ (by decide), h2, by rw [mb_LL, if_pos ⟨rfl, rfl⟩]; rfl⟩ ?_ ?_
  · obtain ⟨S1, g1, a1, e1, e2⟩ := key
    have f4 : gI S1 2 4 = nI p := by rw [a1.i 2 4 (by decide)]; exact h4
    unfold f_Scanner_scanName
    rw [mb_nm, g1, mb_bd]
    unfold Scanner_scanName_j81 Scanner_scanName_j104
    rw [e1, f4, pk_sub q1]
    have hal : alW (chR v p (rnE isAl v n p - p)) := chR_al _ (fun j hj => rnE_in (P := isAl) (v := v) (n := n) (a := p) (by omega) (by omega))
    by_cases c : rnE isAl v n p - p ≤ 8
    · rw [if_pos (by rw [l8, mb_le (by omega) (by omega)]; exact c), sc_word hal (by rw [chR_len]; exact c) e2, mb_bd, mb_nm, if_pos c]
      exact ⟨_, rfl, (a1.wk (by decide) (by decide) (by decide) (by decide)).tr (agG.pI S1 2 3 _ (by decide)), by rw [mb_II, if_neg (fun z => by omega)]; exact e1, by rw [mb_II, if_pos ⟨rfl, rfl⟩], e2⟩
    · rw [if_neg (by rw [l8, mb_le (by omega) (by omega)]; exact c), mb_nm, if_neg c]
      exact ⟨_, rfl, (a1.wk (by decide) (by decide) (by decide) (by decide)).tr (agG.pI S1 2 3 _ (by decide)), by rw [mb_II, if_neg (fun z => by omega)]; exact e1, by rw [mb_II, if_pos ⟨rfl, rfl⟩]; rfl, e2⟩
  · intro i S1 hi hI
    obtain ⟨a1, e1, e2⟩ := hI
    have hl : gI S1 2 1 = nI n := by rw [a1.i 2 1 (by decide)]; exact h1
    have hb := rnE_in (P := isAl) (v := v) (n := n) (a := p) (j := p + i) (by omega) (by omega)
    obtain ⟨t1, t2⟩ := hx.2 (p + i) (by omega)
    have t3 := (al_lt _ t2 hb).2.2.2
    left
    refine ⟨pI (pL S1 2 6 (lN (encC (chR v p (i + 1))))) 2 2 (nI (p + (i + 1))), ?_, a1.tr ((agG.pL S1 2 6 _ (by decide)).tr (agG.pI _ 2 2 _ (by decide))), by rw [mb_II, if_pos ⟨rfl, rfl⟩], by show gL (pL S1 2 6 _) 2 6 = _; rw [mb_LL, if_pos ⟨rfl, rfl⟩]⟩
    have tail : Scanner_scanName_j46_l5 S1 = some (.inl (pI (pL S1 2 6 (lN (encC (chR v p (i + 1))))) 2 2 (nI (p + (i + 1))))) := by
      unfold Scanner_scanName_j46_l5
      rw [e1, mb_in (by omega) (by decide), mb_gd, mb_cl (by omega), a1.a 0 0 (by decide), t1, e2, shl8_I _ t3, mb_nm, mb_nm, mb_IL, e1, nI_1]
      rfl
    unfold Scanner_scanName_l5
    rw [tail, hl, e1, if_neg (by rw [mb_le (by omega) (by omega)]; omega), mb_in (by omega) (by decide), mb_gd, mb_cl (by omega), a1.a 0 0 (by decide), t1, sx_le _ t2, mb_bd, mb_gd, sx_di _ t2, mb_bd]
    unfold isAl at hb
    cases h1 : isLe (v (p + i)) with
    | true => rw [if_neg (by decide)]
    | false =>
      rw [h1, Bool.false_or] at hb
      rw [if_pos (by rfl), hb, if_neg (by decide)]
  · intro S1 hI
    obtain ⟨a1, e1, e2⟩ := hI
    rw [show p + (rnE isAl v n p - p) = rnE isAl v n p by omega] at e1
    have hl : gI S1 2 1 = nI n := by rw [a1.i 2 1 (by decide)]; exact h1
    refine ⟨S1, ?_, a1, e1, e2⟩
    unfold Scanner_scanName_l5
    rw [hl, e1]
    by_cases c : n ≤ rnE isAl v n p
    · rw [if_pos (by rw [mb_le (by omega) (by omega)]; exact c)]
    · have hb := rnE_out (P := isAl) (v := v) (Nat.le_of_lt hp) (by omega)
      obtain ⟨t1, t2⟩ := hx.2 (rnE isAl v n p) (by omega)
      have hb := Bool.or_eq_false_iff.mp (show (isLe (v (rnE isAl v n p)) || isDi (v (rnE isAl v n p))) = false from hb)
      rw [if_neg (by rw [mb_le (by omega) (by omega)]; exact c), mb_in (by omega) (by decide), mb_gd, mb_cl (by omega), a1.a 0 0 (by decide), t1, sx_le _ t2, mb_bd, mb_gd, sx_di _ t2, mb_bd, hb.1, hb.2, if_pos (by rfl), if_pos (by rfl)]
theorem sc_int (hx : TX v n S) (h1 : gI S 2 1 = nI n) {p : Nat} (hp : p < n) (h2 : gI S 2 2 = nI p) (h4 : gI S 2 4 = nI p) : ∃ S', f_Scanner_scanInt S = some S' ∧ agG [(2, 2), (2, 3), (2, 5)] [] [] [] S S' ∧ gI S' 2 2 = nI (rnE isDi v n p) ∧ gI S' 2 3 = nI (if rnE isDi v n p - p ≤ 4 then 3 else 1) ∧ gI S' 2 5 = nI (nuR v p (rnE isDi v n p - p)) := by
  have hn := hx.1
  obtain ⟨q1, q2⟩ := rnE_le (v := v) isDi (Nat.le_of_lt hp)
  have key := wh_ix (f := Scanner_scanInt_l5) (s := pI S 2 5 0) (rnE isDi v n p - p) (fun i S1 => agG [(2, 2), (2, 5)] [] [] [] S S1 ∧ gI S1 2 2 = nI (p + i) ∧ gI S1 2 5 = nI (nuR v p i)) (fun S' => agG [(2, 2), (2, 5)] [] [] [] S S' ∧ gI S' 2 2 = nI (rnE isDi v n p) ∧ gI S' 2 5 = nI (nuR v p (rnE isDi v n p - p))) ⟨agG.pI S 2 5 _ (by decide), by rw [mb_II, if_neg (fun z => by omega)]; exact h2, by rw [mb_II, if_pos ⟨rfl, rfl⟩]; rfl⟩ ?_ ?_
  · obtain ⟨S1, g1, a1, e1, e2⟩ := key
    have f4 : gI S1 2 4 = nI p := by rw [a1.i 2 4 (by decide)]; exact h4
    unfold f_Scanner_scanInt
    rw [mb_nm, g1, mb_bd]
    unfold Scanner_scanInt_j68 Scanner_scanInt_j87
    rw [e1, f4, pk_sub q1]
    by_cases c : rnE isDi v n p - p ≤ 4
    · rw [if_pos (by rw [l4, mb_le (by omega) (by omega)]; exact c), mb_nm, if_pos c]
      exact ⟨_, rfl, (a1.wk (by decide) (by decide) (by decide) (by decide)).tr (agG.pI S1 2 3 _ (by decide)), by rw [mb_II, if_neg (fun z => by omega)]; exact e1, by rw [mb_II, if_pos ⟨rfl, rfl⟩]; rfl, by rw [mb_II, if_neg (fun z => by omega)]; exact e2⟩
    · rw [if_neg (by rw [l4, mb_le (by omega) (by omega)]; exact c), mb_nm, if_neg c]
      exact ⟨_, rfl, (a1.wk (by decide) (by decide) (by decide) (by decide)).tr (agG.pI S1 2 3 _ (by decide)), by rw [mb_II, if_neg (fun z => by omega)]; exact e1, by rw [mb_II, if_pos ⟨rfl, rfl⟩]; rfl, by rw [mb_II, if_neg (fun z => by omega)]; exact e2⟩
  · intro i S1 hi hI
    obtain ⟨a1, e1, e2⟩ := hI
    have hl : gI S1 2 1 = nI n := by rw [a1.i 2 1 (by decide)]; exact h1
    have hb := rnE_in (P := isDi) (v := v) (n := n) (a := p) (j := p + i) (by omega) (by omega)
    obtain ⟨t1, t2⟩ := hx.2 (p + i) (by omega)
    have hd : 48 ≤ v (p + i) ∧ v (p + i) ≤ 57 := by
      unfold isDi at hb
      rw [Bool.and_eq_true] at hb
      exact ⟨Nat.le_of_ble_eq_true hb.1, Nat.le_of_ble_eq_true hb.2⟩
    have en : nI (nuR v p i) * 10 + sx (v (p + i)) - 48 = nI (nuR v p (i + 1)) := by
      rw [(sx_nI _ (by omega)).1, show (10 : Int32) = nI 10 from rfl, pk_mul, nI_add, show (48 : Int32) = nI 48 from rfl, pk_sub (by omega)]
      congr 1
      show _ = 10 * nuR v p i + (v (p + i) - 48)
      omega
    left
    refine ⟨pI (pI S1 2 5 (nI (nuR v p (i + 1)))) 2 2 (nI (p + (i + 1))), ?_, a1.tr ((agG.pI S1 2 5 _ (by decide)).tr (agG.pI _ 2 2 _ (by decide))), by rw [mb_II, if_pos ⟨rfl, rfl⟩], by rw [mb_II, if_neg (fun z => by omega), mb_II, if_pos ⟨rfl, rfl⟩]⟩
    unfold Scanner_scanInt_l5
    rw [hl, e1, if_neg (by rw [mb_le (by omega) (by omega)]; omega), mb_in (by omega) (by decide), mb_gd, mb_cl (by omega), a1.a 0 0 (by decide), t1, sx_di _ t2, mb_bd, hb, if_neg (by decide), mb_gd, e2, en, mb_nm, mb_II, if_neg (fun z => by omega), e1, mb_nm, nI_1]
    rfl
  · intro S1 hI
    obtain ⟨a1, e1, e2⟩ := hI
    rw [show p + (rnE isDi v n p - p) = rnE isDi v n p by omega] at e1
    have hl : gI S1 2 1 = nI n := by rw [a1.i 2 1 (by decide)]; exact h1
    refine ⟨S1, ?_, a1, e1, e2⟩
    unfold Scanner_scanInt_l5
    rw [hl, e1]
    by_cases c : n ≤ rnE isDi v n p
    · rw [if_pos (by rw [mb_le (by omega) (by omega)]; exact c)]
    · have hb := rnE_out (P := isDi) (v := v) (Nat.le_of_lt hp) (by omega)
      obtain ⟨t1, t2⟩ := hx.2 (rnE isDi v n p) (by omega)
      rw [if_neg (by rw [mb_le (by omega) (by omega)]; exact c), mb_in (by omega) (by decide), mb_gd, mb_cl (by omega), a1.a 0 0 (by decide), t1, sx_di _ t2, mb_bd, hb, if_pos (by rfl)]
theorem sgE_1 {c : Nat} : (nI (sgE c) = 1) ↔ Nat.beq (sgE c) 1 = true := by
  unfold sgE
  by_cases c1 : c = 61
  · rw [if_pos c1]; decide
  rw [if_neg c1]
  by_cases c2 : c = 33
  · rw [if_pos c2]; decide
  rw [if_neg c2]
  by_cases c3 : c = 60
  · rw [if_pos c3]; decide
  rw [if_neg c3]; decide
theorem sc_sign (hx : TX v n S) (h1 : gI S 2 1 = nI n) {p : Nat} (hp : p < n) (h2 : gI S 2 2 = nI p) : ∃ S', f_Scanner_scanSign S (sx (v p)) = some S' ∧ agG [(2, 2), (2, 3)] [] [] [] S S' ∧ gI S' 2 2 = nI (p + sgL (v p) (decide (p + 1 < n) && Nat.beq (v (p + 1)) 61)) ∧ gI S' 2 3 = nI (sgK (v p) (decide (p + 1 < n) && Nat.beq (v (p + 1)) 61)) := by
  have hn := hx.1
  obtain ⟨t1, t2⟩ := hx.2 p hp
  have plain : ∃ S', Scanner_scanSign_j48 S (sx (v p)) 1 = some S' ∧ agG [(2, 2), (2, 3)] [] [] [] S S' ∧ gI S' 2 2 = nI (p + 1) ∧ gI S' 2 3 = nI (sgP (v p)) := by
    unfold Scanner_scanSign_j48 Scanner_scanSign_j90
    rw [mb_nm, gI_s, if_pos rfl, sx_sgP _ t2, mb_bd, mb_nm, mb_nm, gI_n _ _ (fun z => by omega), gI_n _ _ (fun z => by omega), h2, nI_1]
    exact ⟨_, rfl, (((agG.pI S 2 3 _ (by decide)).tr (agG.pI _ 2 3 _ (by decide))).tr (agG.pI _ 2 2 _ (by decide))), by rw [mb_II, if_pos ⟨rfl, rfl⟩], by rw [mb_II, if_neg (fun z => by omega), mb_II, if_pos ⟨rfl, rfl⟩]⟩
  unfold f_Scanner_scanSign Scanner_scanSign_j33 Scanner_scanSign_j34
  rw [h1, h2, nI_1, if_pos (show (0 : Int32) = 0 from rfl), if_neg (show ¬ (1 : Int32) = 0 by decide)]
  by_cases c : n ≤ p + 1
  · rw [if_pos (by rw [mb_le (by omega) (by omega)]; exact c), decide_eq_false (show ¬ p + 1 < n by omega)]
    exact plain
  · obtain ⟨u1, u2⟩ := hx.2 (p + 1) (by omega)
    rw [if_neg (by rw [mb_le (by omega) (by omega)]; exact c), decide_eq_true (show p + 1 < n by omega), Bool.true_and, mb_in (by omega) (by decide), mb_gd, mb_cl (by omega), u1]
    by_cases d : v (p + 1) = 61
    · rw [if_pos ((sx_61 _ u2).mpr d), d, sx_sgE _ t2, mb_bd]
      show ∃ S', _ ∧ _ ∧ gI S' 2 2 = nI (p + cond (Nat.beq (sgE (v p)) 1) 1 2) ∧ gI S' 2 3 = nI (cond (Nat.beq (sgE (v p)) 1) (sgP (v p)) (sgE (v p)))
      cases hb : Nat.beq (sgE (v p)) 1 with
      | true =>
        rw [sgE_1.mpr hb]
        exact plain
      | false =>
        have hne : ¬ nI (sgE (v p)) = 1 := fun z => by
          rw [sgE_1.mp z] at hb
          cases hb
        unfold Scanner_scanSign_j48 Scanner_scanSign_j90
        rw [mb_nm, gI_s, if_neg hne, mb_nm, gI_n _ _ (fun z => by omega), h2, l2, nI_add]
        exact ⟨_, rfl, (agG.pI S 2 3 _ (by decide)).tr (agG.pI _ 2 2 _ (by decide)), by rw [mb_II, if_pos ⟨rfl, rfl⟩]; rfl, by rw [mb_II, if_neg (fun z => by omega), mb_II, if_pos ⟨rfl, rfl⟩]; rfl⟩
    · have hb : Nat.beq (v (p + 1)) 61 = false := by
        cases h : Nat.beq (v (p + 1)) 61 with
        | false => rfl
        | true => exact absurd (Nat.eq_of_beq_eq_true h) d
      rw [if_neg (fun z => d ((sx_61 _ u2).mp z)), hb]
      exact plain
def scI : List (Nat × Nat) := [(2, 2), (2, 3), (2, 4), (2, 5)]
theorem wKd_3 (w : List Nat) : ¬ wKd w = 3 := by
  unfold wKd
  cases wix w 13 with
  | none => decide
  | some j => show ¬ 14 + j = 3; omega
theorem sg_23 (c : Nat) (q : Bool) : ¬ sgK c q = 2 ∧ ¬ sgK c q = 3 ∧ ¬ sgK c q = 0 ∧ sgK c q < 14 := by
  have h1 : ∀ c, ¬ sgP c = 2 ∧ ¬ sgP c = 3 ∧ ¬ sgP c = 0 ∧ sgP c < 14 := by
    intro c
    unfold sgP
    by_cases c1 : c = 59
    · rw [if_pos c1]; decide
    rw [if_neg c1]
    by_cases c1 : c = 43
    · rw [if_pos c1]; decide
    rw [if_neg c1]
    by_cases c1 : c = 45
    · rw [if_pos c1]; decide
    rw [if_neg c1]
    by_cases c1 : c = 42
    · rw [if_pos c1]; decide
    rw [if_neg c1]
    by_cases c1 : c = 60
    · rw [if_pos c1]; decide
    rw [if_neg c1]
    by_cases c1 : c = 40
    · rw [if_pos c1]; decide
    rw [if_neg c1]
    by_cases c1 : c = 41
    · rw [if_pos c1]; decide
    rw [if_neg c1]; decide
  have h2 : ¬ sgE c = 2 ∧ ¬ sgE c = 3 ∧ ¬ sgE c = 0 ∧ sgE c < 14 := by
    unfold sgE
    by_cases c1 : c = 61
    · rw [if_pos c1]; decide
    rw [if_neg c1]
    by_cases c1 : c = 33
    · rw [if_pos c1]; decide
    rw [if_neg c1]
    by_cases c1 : c = 60
    · rw [if_pos c1]; decide
    rw [if_neg c1]; decide
  unfold sgK
  cases q with
  | false => exact h1 c
  | true =>
    cases Nat.beq (sgE c) 1 with
    | true => exact h1 c
    | false => exact h2
theorem sc_adv (hx : TX v n S) (h1 : gI S 2 1 = nI n) {p : Nat} (hp : p ≤ n) (h2 : gI S 2 2 = nI p) : ∃ S', f_Scanner_advance S = some S' ∧ agG scI [] [] [(2, 6)] S S' ∧ gI S' 2 3 = nI (tkAt v n (rnE isBl v n p)).1 ∧ gI S' 2 4 = nI (tkAt v n (rnE isBl v n p)).2.1 ∧ gI S' 2 2 = nI (tkAt v n (rnE isBl v n p)).2.2.2.2 ∧ ((tkAt v n (rnE isBl v n p)).1 = 3 → gI S' 2 5 = nI (tkAt v n (rnE isBl v n p)).2.2.1) ∧ ((tkAt v n (rnE isBl v n p)).1 = 2 → gL S' 2 6 = lN (encC (tkAt v n (rnE isBl v n p)).2.2.2.1)) := by
  have hn := hx.1
  obtain ⟨q1, q2⟩ := rnE_le (v := v) isBl hp
  obtain ⟨S1, g1, a1, e1⟩ := sc_blank hx h1 hp h2
  unfold f_Scanner_advance Scanner_advance_j39 Scanner_advance_j123
  rw [g1, mb_bd, e1, mb_nm]
  generalize rnE isBl v n p = b at *
  have a2 : agG scI [] [] [(2, 6)] S (pI S1 2 4 (nI b)) := (a1.wk (by decide) (by decide) (by decide) (by decide)).tr (agG.pI S1 2 4 _ (by decide))
  have f1 : gI (pI S1 2 4 (nI b)) 2 1 = nI n := by rw [a2.i 2 1 (by decide)]; exact h1
  have f2 : gI (pI S1 2 4 (nI b)) 2 2 = nI b := by rw [mb_II, if_neg (fun z => by omega)]; exact e1
  have f4 : gI (pI S1 2 4 (nI b)) 2 4 = nI b := by rw [mb_II, if_pos ⟨rfl, rfl⟩]
  have fx : TX v n (pI S1 2 4 (nI b)) := ⟨hn, fun j hj => by rw [a2.a 0 0 (by decide)]; exact hx.2 j hj⟩
  rw [f2, f1]
  generalize pI S1 2 4 (nI b) = S2 at *
  unfold tkAt
  by_cases c : b < n
  · rw [if_pos c]
    obtain ⟨t1, t2⟩ := fx.2 b c
    rw [if_pos (by rw [mb_lt (by omega) (by omega)]; exact c), mb_in (by omega) (by decide), mb_gd, mb_gd, mb_gd, mb_cl (by omega), t1, sx_le _ t2, mb_bd, sx_di _ t2, mb_bd]
    cases hL : isLe (v b) with
    | true =>
      obtain ⟨S3, g3, a3, e3, e4, e5⟩ := sc_name fx f1 c f2 f4
      rw [if_neg (by decide), g3, mb_bd]
      refine ⟨S3, rfl, a2.tr (a3.wk (by decide) (by decide) (by decide) (by decide)), e4, ?_, e3, fun z => ?_, fun _ => e5⟩
      · rw [a3.i 2 4 (by decide)]; exact f4
      · exfalso
        have z : (if rnE isAl v n b - b ≤ 8 then wKd (chR v b (rnE isAl v n b - b)) else 1) = 3 := z
        by_cases d : rnE isAl v n b - b ≤ 8
        · rw [if_pos d] at z; exact wKd_3 _ z
        · rw [if_neg d] at z; cases z
    | false =>
      rw [if_pos (by rfl)]
      cases hD : isDi (v b) with
      | true =>
        obtain ⟨S3, g3, a3, e3, e4, e5⟩ := sc_int fx f1 c f2 f4
        rw [if_neg (by decide), g3, mb_bd]
        refine ⟨S3, rfl, a2.tr (a3.wk (by decide) (by decide) (by decide) (by decide)), e4, ?_, e3, fun _ => e5, fun z => ?_⟩
        · rw [a3.i 2 4 (by decide)]; exact f4
        · exfalso
          have z : (if rnE isDi v n b - b ≤ 4 then 3 else 1) = 2 := z
          by_cases d : rnE isDi v n b - b ≤ 4
          · rw [if_pos d] at z; cases z
          · rw [if_neg d] at z; cases z
      | false =>
        obtain ⟨S3, g3, a3, e3, e4⟩ := sc_sign fx f1 c f2
        rw [if_pos (by rfl), g3, mb_bd]
        refine ⟨S3, rfl, a2.tr (a3.wk (by decide) (by decide) (by decide) (by decide)), e4, ?_, e3, fun z => absurd z (sg_23 _ _).2.1, fun z => absurd z (sg_23 _ _).1⟩
        rw [a3.i 2 4 (by decide)]; exact f4
  · have eb : b = n := by omega
    rw [if_neg c, if_neg (by rw [mb_lt (by omega) (by omega)]; exact c), mb_nm]
    refine ⟨_, rfl, a2.tr (agG.pI S2 2 3 _ (by decide)), by rw [mb_II, if_pos ⟨rfl, rfl⟩]; rfl, by rw [mb_II, if_neg (fun z => by omega), f4, eb], by rw [mb_II, if_neg (fun z => by omega), f2, eb], fun z => (by cases z), fun z => (by cases z)⟩
/-- the scanner holds token k -/
def SC (v : Nat → Nat) (n k : Nat) (S : St) : Prop := TX v n S ∧ gI S 2 1 = nI n ∧ gI S 2 2 = nI (ps v n (k + 1)) ∧ gI S 2 3 = nI (tK v n k) ∧ gI S 2 4 = nI (tP v n k) ∧ (tK v n k = 3 → gI S 2 5 = nI (tN v n k)) ∧ (tK v n k = 2 → gL S 2 6 = lN (encC (tWd v n k)))
theorem sgL_1 (c : Nat) (q : Bool) : 1 ≤ sgL c q ∧ sgL c q ≤ 2 ∧ (sgL c q = 2 → q = true) := by
  unfold sgL
  cases q with
  | false => exact ⟨Nat.le_refl 1, Nat.le_succ 1, fun z => by cases z⟩
  | true =>
    cases Nat.beq (sgE c) 1 with
    | true => exact ⟨by decide, by decide, fun _ => rfl⟩
    | false => exact ⟨by decide, by decide, fun _ => rfl⟩
theorem tk_next {p : Nat} (hp : p ≤ n) : (tkAt v n p).2.2.2.2 ≤ n ∧ (tkAt v n p).2.1 ≤ n ∧ (p < n → p < (tkAt v n p).2.2.2.2 ∧ (tkAt v n p).2.1 = p) := by
  unfold tkAt
  by_cases c : p < n
  · rw [if_pos c]
    cases hL : isLe (v p) with
    | true =>
      have h1 := rnE_le (v := v) isAl (Nat.le_of_lt c)
      have h2 : rnE isAl v n p = rnE isAl v n (p + 1) := rnE_t c (by unfold isAl; rw [hL]; rfl)
      have h3 := rnE_le (v := v) isAl (show p + 1 ≤ n by omega)
      refine ⟨h1.2, hp, fun _ => ⟨?_, rfl⟩⟩
      show p < rnE isAl v n p
      omega
    | false =>
      cases hD : isDi (v p) with
      | true =>
        have h1 := rnE_le (v := v) isDi (Nat.le_of_lt c)
        have h2 : rnE isDi v n p = rnE isDi v n (p + 1) := rnE_t c hD
        have h3 := rnE_le (v := v) isDi (show p + 1 ≤ n by omega)
        refine ⟨h1.2, hp, fun _ => ⟨?_, rfl⟩⟩
        show p < rnE isDi v n p
        omega
      | false =>
        have h1 := sgL_1 (v p) (decide (p + 1 < n) && Nat.beq (v (p + 1)) 61)
        refine ⟨?_, hp, fun _ => ⟨?_, rfl⟩⟩
        · show p + sgL (v p) (decide (p + 1 < n) && Nat.beq (v (p + 1)) 61) ≤ n
          by_cases d : sgL (v p) (decide (p + 1 < n) && Nat.beq (v (p + 1)) 61) = 2
          · have := h1.2.2 d
            rw [Bool.and_eq_true] at this
            have := of_decide_eq_true this.1
            omega
          · omega
        · show p < p + sgL (v p) (decide (p + 1 < n) && Nat.beq (v (p + 1)) 61)
          omega
  · rw [if_neg c]
    exact ⟨Nat.le_refl n, Nat.le_refl n, fun z => absurd z c⟩
theorem ps_le : ∀ k, ps v n k ≤ n
  | 0 => Nat.zero_le n
  | k + 1 => (tk_next (rnE_le (v := v) isBl (ps_le k)).2).1
theorem tP_le (k : Nat) : tP v n k ≤ n := (tk_next (rnE_le (v := v) isBl (ps_le k)).2).2.1
theorem sc_next {k : Nat} (h : SC v n k S) : ∃ S', f_Scanner_advance S = some S' ∧ agG scI [] [] [(2, 6)] S S' ∧ SC v n (k + 1) S' := by
  obtain ⟨hx, h1, h2, -⟩ := h
  obtain ⟨S', g1, a1, e1, e2, e3, e4, e5⟩ := sc_adv hx h1 (ps_le (k + 1)) h2
  exact ⟨S', g1, a1, ⟨hx.1, fun j hj => by rw [a1.a 0 0 (by decide)]; exact hx.2 j hj⟩, by rw [a1.i 2 1 (by decide)]; exact h1, e3, e1, e2, e4, e5⟩
theorem tk_2 {k : Nat} (h : tK v n k = 2) : alW (tWd v n k) ∧ (tWd v n k).length ≤ 8 := by
  unfold tK tWd tok at *
  unfold tkAt at *
  by_cases c : rnE isBl v n (ps v n k) < n
  · rw [if_pos c] at h ⊢
    cases hL : isLe (v (rnE isBl v n (ps v n k))) with
    | true =>
      rw [hL] at h
      have h : (if rnE isAl v n (rnE isBl v n (ps v n k)) - rnE isBl v n (ps v n k) ≤ 8 then wKd (chR v (rnE isBl v n (ps v n k)) (rnE isAl v n (rnE isBl v n (ps v n k)) - rnE isBl v n (ps v n k))) else 1) = 2 := h
      by_cases d : rnE isAl v n (rnE isBl v n (ps v n k)) - rnE isBl v n (ps v n k) ≤ 8
      · refine ⟨chR_al _ (fun j hj => rnE_in (P := isAl) (v := v) (n := n) (a := rnE isBl v n (ps v n k)) (by omega) (by omega)), ?_⟩
        show (chR v (rnE isBl v n (ps v n k)) (rnE isAl v n (rnE isBl v n (ps v n k)) - rnE isBl v n (ps v n k))).length ≤ 8
        rw [chR_len]
        exact d
      · rw [if_neg d] at h; cases h
    | false =>
      rw [hL] at h
      cases hD : isDi (v (rnE isBl v n (ps v n k))) with
      | true =>
        rw [hD] at h
        have h : (if rnE isDi v n (rnE isBl v n (ps v n k)) - rnE isBl v n (ps v n k) ≤ 4 then 3 else 1) = 2 := h
        by_cases d : rnE isDi v n (rnE isBl v n (ps v n k)) - rnE isBl v n (ps v n k) ≤ 4
        · rw [if_pos d] at h; cases h
        · rw [if_neg d] at h; cases h
      | false =>
        rw [hD] at h
        exact absurd h (sg_23 _ _).1
  · rw [if_neg c] at h
    cases h
theorem nu_lt {p : Nat} : ∀ i, (∀ j, j < i → isDi (v (p + j)) = true) → nuR v p i < 10 ^ i
  | 0, _ => Nat.zero_lt_one
  | i + 1, h => by
    have h1 := nu_lt i (fun j hj => h j (by omega))
    have hb := h i (by omega)
    unfold isDi at hb
    rw [Bool.and_eq_true] at hb
    have := Nat.le_of_ble_eq_true hb.2
    show 10 * nuR v p i + (v (p + i) - 48) < 10 ^ (i + 1)
    rw [Nat.pow_succ]
    omega
theorem tk_3 {k : Nat} (h : tK v n k = 3) : tN v n k < 10000 := by
  unfold tK tN tok at *
  unfold tkAt at *
  by_cases c : rnE isBl v n (ps v n k) < n
  · rw [if_pos c] at h ⊢
    cases hL : isLe (v (rnE isBl v n (ps v n k))) with
    | true =>
      rw [hL] at h
      have h : (if rnE isAl v n (rnE isBl v n (ps v n k)) - rnE isBl v n (ps v n k) ≤ 8 then wKd (chR v (rnE isBl v n (ps v n k)) (rnE isAl v n (rnE isBl v n (ps v n k)) - rnE isBl v n (ps v n k))) else 1) = 3 := h
      by_cases d : rnE isAl v n (rnE isBl v n (ps v n k)) - rnE isBl v n (ps v n k) ≤ 8
      · rw [if_pos d] at h
        exact absurd h (wKd_3 _)
      · rw [if_neg d] at h; cases h
    | false =>
      rw [hL] at h
      cases hD : isDi (v (rnE isBl v n (ps v n k))) with
      | true =>
        rw [hD] at h
        have h : (if rnE isDi v n (rnE isBl v n (ps v n k)) - rnE isBl v n (ps v n k) ≤ 4 then 3 else 1) = 3 := h
        by_cases d : rnE isDi v n (rnE isBl v n (ps v n k)) - rnE isBl v n (ps v n k) ≤ 4
        · have h1 := nu_lt (v := v) (p := rnE isBl v n (ps v n k)) (rnE isDi v n (rnE isBl v n (ps v n k)) - rnE isBl v n (ps v n k)) (fun j hj => rnE_in (P := isDi) (v := v) (n := n) (a := rnE isBl v n (ps v n k)) (by omega) (by omega))
          have h2 : 10 ^ (rnE isDi v n (rnE isBl v n (ps v n k)) - rnE isBl v n (ps v n k)) ≤ 10 ^ 4 := Nat.pow_le_pow_right (by decide) d
          show nuR v (rnE isBl v n (ps v n k)) (rnE isDi v n (rnE isBl v n (ps v n k)) - rnE isBl v n (ps v n k)) < 10000
          omega
        · rw [if_neg d] at h; cases h
      | false =>
        rw [hD] at h
        exact absurd h (sg_23 _ _).2.1
  · rw [if_neg c] at h
    cases h
theorem wKd_lt (w : List Nat) : wKd w < 27 ∧ ¬ wKd w = 0 := by
  unfold wKd
  cases h : wix w 13 with
  | none => decide
  | some j =>
    have := (wix_s h).1
    show 14 + j < 27 ∧ ¬ 14 + j = 0
    omega
theorem tK_lt (k : Nat) : tK v n k < 27 ∧ (tK v n k = 0 ↔ ¬ rnE isBl v n (ps v n k) < n) := by
  unfold tK tok tkAt
  by_cases c : rnE isBl v n (ps v n k) < n
  · rw [if_pos c]
    have key : ∀ x : Nat, x < 27 ∧ ¬ x = 0 → x < 27 ∧ (x = 0 ↔ ¬ rnE isBl v n (ps v n k) < n) := fun x h => ⟨h.1, fun z => absurd z h.2, fun z => absurd c z⟩
    apply key
    cases hL : isLe (v (rnE isBl v n (ps v n k))) with
    | true =>
      show (if rnE isAl v n (rnE isBl v n (ps v n k)) - rnE isBl v n (ps v n k) ≤ 8 then wKd (chR v (rnE isBl v n (ps v n k)) (rnE isAl v n (rnE isBl v n (ps v n k)) - rnE isBl v n (ps v n k))) else 1) < 27 ∧ ¬ (if rnE isAl v n (rnE isBl v n (ps v n k)) - rnE isBl v n (ps v n k) ≤ 8 then wKd (chR v (rnE isBl v n (ps v n k)) (rnE isAl v n (rnE isBl v n (ps v n k)) - rnE isBl v n (ps v n k))) else 1) = 0
      by_cases d : rnE isAl v n (rnE isBl v n (ps v n k)) - rnE isBl v n (ps v n k) ≤ 8
      · rw [if_pos d]; exact wKd_lt _
      · rw [if_neg d]; decide
    | false =>
      cases hD : isDi (v (rnE isBl v n (ps v n k))) with
      | true =>
        show (if rnE isDi v n (rnE isBl v n (ps v n k)) - rnE isBl v n (ps v n k) ≤ 4 then 3 else 1) < 27 ∧ ¬ (if rnE isDi v n (rnE isBl v n (ps v n k)) - rnE isBl v n (ps v n k) ≤ 4 then 3 else 1) = 0
        by_cases d : rnE isDi v n (rnE isBl v n (ps v n k)) - rnE isBl v n (ps v n k) ≤ 4
        · rw [if_pos d]; decide
        · rw [if_neg d]; decide
      | false =>
        have := sg_23 (v (rnE isBl v n (ps v n k))) (decide (rnE isBl v n (ps v n k) + 1 < n) && Nat.beq (v (rnE isBl v n (ps v n k) + 1)) 61)
        exact ⟨by have := this.2.2.2; show sgK _ _ < 27; omega, this.2.2.1⟩
  · rw [if_neg c]
    exact ⟨show (0 : Nat) < 27 by decide, fun _ => c, fun _ => rfl⟩
