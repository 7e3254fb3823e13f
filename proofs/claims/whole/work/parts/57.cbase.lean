/-! the class: frames, filling, sums over supersets -/
def agC (LI LA LB : List (Nat × Nat)) (S S' : St) : Prop := (∀ o k, (o, k) ∉ LI → gI S' o k = gI S o k) ∧ (∀ o k, (o, k) ∉ LA → gA S' o k = gA S o k) ∧ (∀ o k, (o, k) ∉ LB → gB S' o k = gB S o k) ∧ gN S' = gN S
theorem agC.rf {LI LA LB : List (Nat × Nat)} (S : St) : agC LI LA LB S S := ⟨fun _ _ _ => rfl, fun _ _ _ => rfl, fun _ _ _ => rfl, rfl⟩
theorem agC.tr {LI LA LB : List (Nat × Nat)} {A B C : St} (h1 : agC LI LA LB A B) (h2 : agC LI LA LB B C) : agC LI LA LB A C := ⟨fun o k hk => (h2.1 o k hk).trans (h1.1 o k hk), fun o k hk => (h2.2.1 o k hk).trans (h1.2.1 o k hk), fun o k hk => (h2.2.2.1 o k hk).trans (h1.2.2.1 o k hk), h2.2.2.2.trans h1.2.2.2⟩
theorem agC.wk {LI LA LB LI' LA' LB' : List (Nat × Nat)} {A B : St} (h : agC LI LA LB A B) (h1 : ∀ q, q ∈ LI → q ∈ LI') (h2 : ∀ q, q ∈ LA → q ∈ LA') (h3 : ∀ q, q ∈ LB → q ∈ LB') : agC LI' LA' LB' A B := ⟨fun o k hk => h.1 o k (fun q => hk (h1 _ q)), fun o k hk => h.2.1 o k (fun q => hk (h2 _ q)), fun o k hk => h.2.2.1 o k (fun q => hk (h3 _ q)), h.2.2.2⟩
theorem agC.pI (S : St) (o k : Nat) (v : Int32) {LI LA LB : List (Nat × Nat)} (hk : (o, k) ∈ LI) : agC LI LA LB S (pI S o k v) := ⟨fun a b hq => by rw [mb_II, if_neg]; intro z; rw [z.1, z.2] at hq; exact hq hk, fun _ _ _ => rfl, fun _ _ _ => rfl, rfl⟩
theorem agC.pL (S : St) (o k : Nat) (v : Int64) {LI LA LB : List (Nat × Nat)} : agC LI LA LB S (pL S o k v) := ⟨fun _ _ _ => rfl, fun _ _ _ => rfl, fun _ _ _ => rfl, rfl⟩
theorem agC.pA (S : St) (o k j : Nat) (v : Int32) {LI LA LB : List (Nat × Nat)} (hk : (o, k) ∈ LA) : agC LI LA LB S (pA S o k j v) := by
  refine ⟨fun _ _ _ => rfl, fun a b hq => ?_, fun _ _ _ => rfl, rfl⟩
  funext c
  rw [mb_AA, if_neg]
  intro z
  rw [z.1, z.2.1] at hq
  exact hq hk
theorem agC.pB (S : St) (o k j : Nat) (v : Int64) {LI LA LB : List (Nat × Nat)} (hk : (o, k) ∈ LB) : agC LI LA LB S (pB S o k j v) := by
  refine ⟨fun _ _ _ => rfl, fun _ _ _ => rfl, fun a b hq => ?_, rfl⟩
  funext c
  rw [mb_BB, if_neg]
  intro z
  rw [z.1, z.2.1] at hq
  exact hq hk
theorem c_fill {o k n : Nat} {S : St} (v : Int32) (hn : ∀ S', gN S' = gN S → lenC S' o k = n) (h2 : n ≤ 32768) : ∃ S', f_Arrays_fill o k S v = some S' ∧ agC [] [(o, k)] [] S S' ∧ ∀ j, j < n → gA S' o k j = v := by
  unfold f_Arrays_fill
  rw [mb_nm, hn S rfl]
  have key := wh_ix (f := un2 (Arrays_fill_l5 o k v (nI n))) (s := (S, (0 : Int32))) n (fun i q => q.2 = nI i ∧ agC [] [(o, k)] [] S q.1 ∧ ∀ j, j < i → gA q.1 o k j = v) (fun S' => agC [] [(o, k)] [] S S' ∧ ∀ j, j < n → gA S' o k j = v) ⟨rfl, agC.rf S, fun j hj => absurd hj (Nat.not_lt_zero j)⟩ ?_ ?_
  · obtain ⟨S', h1, h2⟩ := key
    rw [h1, mb_bd]
    exact ⟨S', rfl, h2⟩
  · intro i q hi hI
    obtain ⟨S1, x⟩ := q
    obtain ⟨e1, a1, v1⟩ := hI
    dsimp only at e1 a1 v1
    subst e1
    left
    refine ⟨(pA S1 o k i v, nI (i + 1)), ?_, rfl, a1.tr (agC.pA S1 o k i v List.mem_cons_self), ?_⟩
    · show Arrays_fill_l5 o k v (nI n) S1 (nI i) = _
      unfold Arrays_fill_l5
      rw [if_neg (by rw [mb_le (by omega) (by omega)]; omega), hn S1 a1.2.2.2, mb_in hi (by omega), mb_gd, mb_nm, mb_nm, mb_cl (by omega), nI_1]
    · intro j hj
      show gA (pA S1 o k i v) o k j = v
      rw [mb_AA]
      by_cases e : j = i
      · rw [if_pos ⟨rfl, rfl, e⟩]
      · rw [if_neg (fun z => e z.2.2)]; exact v1 j (by omega)
  · intro q hI
    obtain ⟨S1, x⟩ := q
    obtain ⟨e1, a1, v1⟩ := hI
    dsimp only at e1 a1 v1
    subst e1
    refine ⟨S1, ?_, a1, v1⟩
    show Arrays_fill_l5 o k v (nI n) S1 (nI n) = _
    unfold Arrays_fill_l5
    rw [if_pos (by rw [mb_le (by omega) (by omega)]; omega)]
/-! counting by supersets -/
def pS (b x s : Nat) : Prop := ∀ j, (b ≤ j → x.testBit j = s.testBit j) ∧ (j < b → s.testBit j = true → x.testBit j = true)
noncomputable def pSb (b x s : Nat) : Bool := @decide (pS b x s) (Classical.propDecidable _)
theorem pSb_t {b x s : Nat} : pSb b x s = true ↔ pS b x s := @decide_eq_true_iff (pS b x s) (Classical.propDecidable _)
theorem pS_0 (x s : Nat) : pS 0 x s ↔ x = s := ⟨fun h => Nat.eq_of_testBit_eq (fun j => (h j).1 (Nat.zero_le j)), fun h j => ⟨fun _ => by rw [h], fun q => absurd q (Nat.not_lt_zero j)⟩⟩
theorem has_iff {x s : Nat} : has x s = true ↔ ∀ j, s.testBit j = true → x.testBit j = true := by
  unfold has
  constructor
  · intro h j hj
    have e := Nat.eq_of_beq_eq_true h
    rw [← e, Nat.testBit_and, Bool.and_eq_true] at hj
    exact hj.1
  · intro h
    have : x &&& s = s := Nat.eq_of_testBit_eq (fun j => by
      rw [Nat.testBit_and]
      cases hs : s.testBit j with
      | false => simp
      | true => rw [h j hs]; rfl)
    rw [this]
    exact Nat.beq_refl s
theorem pS_8 {x s : Nat} (hx : x < 256) (hs : s < 256) : pS 8 x s ↔ has x s = true := by
  rw [has_iff]
  constructor
  · intro h j hj
    by_cases c : j < 8
    · exact (h j).2 c hj
    · rw [(h j).1 (by omega)]; exact hj
  · intro h j
    refine ⟨fun hj => ?_, fun _ q => h j q⟩
    have p : (256 : Nat) ≤ 2 ^ j := Nat.pow_le_pow_right (n := 2) (by decide) hj
    rw [Nat.testBit_lt_two_pow (Nat.lt_of_lt_of_le hx p), Nat.testBit_lt_two_pow (Nat.lt_of_lt_of_le hs p)]
theorem tb_or_pow (s b j : Nat) : (s ||| 2 ^ b).testBit j = (s.testBit j || decide (b = j)) := by
  rw [Nat.testBit_or, Nat.testBit_two_pow]
theorem pS_one {b x s : Nat} (h : s.testBit b = true) : pS (b + 1) x s ↔ pS b x s := by
  constructor
  · intro q j
    refine ⟨fun hj => ?_, fun hj hs => (q j).2 (by omega) hs⟩
    by_cases e : j = b
    · subst e; rw [h]; exact (q j).2 (by omega) h
    · exact (q j).1 (by omega)
  · intro q j
    refine ⟨fun hj => (q j).1 (by omega), fun hj hs => ?_⟩
    by_cases e : j = b
    · subst e; rw [(q j).1 (Nat.le_refl j)]; exact hs
    · exact (q j).2 (by omega) hs
theorem pS_two {b x s : Nat} (h : s.testBit b = false) : pS (b + 1) x s ↔ (pS b x s ∨ pS b x (s ||| 2 ^ b)) := by
  constructor
  · intro q
    cases hx : x.testBit b with
    | false =>
      left
      intro j
      refine ⟨fun hj => ?_, fun hj hs => (q j).2 (by omega) hs⟩
      by_cases e : j = b
      · subst e; rw [h, hx]
      · exact (q j).1 (by omega)
    | true =>
      right
      intro j
      rw [tb_or_pow]
      refine ⟨fun hj => ?_, fun hj hs => ?_⟩
      · by_cases e : j = b
        · subst e; rw [hx]; simp
        · rw [(q j).1 (by omega), decide_eq_false (by omega)]; simp
      · rw [decide_eq_false (by omega), Bool.or_false] at hs
        exact (q j).2 (by omega) hs
  · rintro (q | q) j
    · refine ⟨fun hj => (q j).1 (by omega), fun hj hs => ?_⟩
      by_cases e : j = b
      · subst e; rw [h] at hs; cases hs
      · exact (q j).2 (by omega) hs
    · have q' := q j
      rw [tb_or_pow] at q'
      refine ⟨fun hj => ?_, fun hj hs => ?_⟩
      · rw [decide_eq_false (by omega), Bool.or_false] at q'
        exact q'.1 (by omega)
      · by_cases e : j = b
        · subst e; rw [h] at hs; cases hs
        · rw [decide_eq_false (by omega), Bool.or_false] at q'
          exact q'.2 (by omega) hs
theorem pS_dis {b x s : Nat} (h : s.testBit b = false) (h1 : pS b x s) (h2 : pS b x (s ||| 2 ^ b)) : False := by
  have e1 := (h1 b).1 (Nat.le_refl b)
  have e2 := (h2 b).1 (Nat.le_refl b)
  rw [tb_or_pow, h] at e2
  rw [e1, h] at e2
  simp at e2
theorem cN_cg {p q : Nat → Bool} {l : List Nat} (h : ∀ x, x ∈ l → p x = q x) : cN p l = cN q l := by
  unfold cN
  rw [List.filter_congr h]
theorem cN_sum {p q r : Nat → Bool} (h1 : ∀ x, p x = true ↔ (q x = true ∨ r x = true)) (h2 : ∀ x, q x = true → r x = true → False) : ∀ l : List Nat, cN p l = cN q l + cN r l
  | [] => rfl
  | x :: l => by
    have ih := cN_sum h1 h2 l
    unfold cN at ih ⊢
    have a1 := h1 x
    have a2 := h2 x
    rw [List.filter_cons, List.filter_cons, List.filter_cons]
    cases hp : p x <;> cases hq : q x <;> cases hr : r x <;> simp_all <;> omega
noncomputable def cS (f : Nat → Nat) (l : List Nat) (b s : Nat) : Nat := cN (fun x => pSb b (f x) s) l
theorem cS_one {f : Nat → Nat} {l : List Nat} {b s : Nat} (h : s.testBit b = true) : cS f l (b + 1) s = cS f l b s := cN_cg (fun x _ => by
  rw [Bool.eq_iff_iff, pSb_t, pSb_t]
  exact pS_one h)
theorem cS_two {f : Nat → Nat} {l : List Nat} {b s : Nat} (h : s.testBit b = false) : cS f l (b + 1) s = cS f l b s + cS f l b (s ||| 2 ^ b) := cN_sum (fun x => by
  rw [pSb_t, pSb_t, pSb_t]
  exact pS_two h) (fun x h1 h2 => pS_dis h (pSb_t.mp h1) (pSb_t.mp h2)) l
theorem and_pow_I {s b : Nat} (hs : s < 256) (hb : b < 8) : (nI s &&& nI (2 ^ b) = 0) = (s.testBit b = false) := by
  have hl : s &&& 2 ^ b < 256 := Nat.lt_of_le_of_lt Nat.and_le_left hs
  rw [nI_and, l0, mb_eq (by omega) (by decide)]
  refine propext ⟨fun h => ?_, fun h => ?_⟩
  · have := congrArg (fun z => z.testBit b) h
    simp only [Nat.testBit_and, Nat.testBit_two_pow_self, Bool.and_true, Nat.zero_testBit] at this
    exact this
  · apply Nat.eq_of_testBit_eq
    intro j
    rw [Nat.testBit_and, Nat.testBit_two_pow, Nat.zero_testBit]
    by_cases e : b = j
    · subst e
      rw [h]
      rfl
    · rw [decide_eq_false e, Bool.and_false]
theorem sh_pow1 : ∀ b, b < 8 → nI (2 ^ b) <<< ((1 : Int32) &&& 31) = nI (2 ^ (b + 1)) := by decide
theorem pS_M {M x s : Nat} (hx : x < 2 ^ M) (hs : s < 2 ^ M) : pS M x s ↔ has x s = true := by
  rw [has_iff]
  constructor
  · intro h j hj
    by_cases c : j < M
    · exact (h j).2 c hj
    · rw [(h j).1 (by omega)]; exact hj
  · intro h j
    refine ⟨fun hj => ?_, fun _ q => h j q⟩
    have p : 2 ^ M ≤ 2 ^ j := Nat.pow_le_pow_right (n := 2) (by decide) hj
    rw [Nat.testBit_lt_two_pow (Nat.lt_of_lt_of_le hx p), Nat.testBit_lt_two_pow (Nat.lt_of_lt_of_le hs p)]
theorem pow_le8 {M : Nat} (h : M ≤ 8) : 2 ^ M ≤ 256 := Nat.pow_le_pow_right (n := 2) (i := M) (j := 8) (by decide) h
theorem c_supers1 {o k b M : Nat} {S : St} {f : Nat → Nat} {l : List Nat} (hn : ∀ S', gN S' = gN S → lenC S' o k = 256) (hM : M ≤ 8) (hb : b < M) (h0 : ∀ j, j < 2 ^ M → gA S o k j = nI (cS f l b j)) : ∃ S', wh (un2 (Lots_addSupersets_l26 o k (nI (2 ^ M)) (nI (2 ^ b)))) (S, (0 : Int32)) = some S' ∧ agC [] [(o, k)] [] S S' ∧ (∀ j, j < 2 ^ M → gA S' o k j = nI (cS f l (b + 1) j)) ∧ ∀ j, 2 ^ M ≤ j → gA S' o k j = gA S o k j := by
  have p8 := pow_le8 hM
  refine wh_ix (f := un2 (Lots_addSupersets_l26 o k (nI (2 ^ M)) (nI (2 ^ b)))) (2 ^ M) (fun i q => q.2 = nI i ∧ agC [] [(o, k)] [] S q.1 ∧ (∀ j, j < i → gA q.1 o k j = nI (cS f l (b + 1) j)) ∧ (∀ j, i ≤ j → j < 2 ^ M → gA q.1 o k j = nI (cS f l b j)) ∧ ∀ j, 2 ^ M ≤ j → gA q.1 o k j = gA S o k j) (fun S' => agC [] [(o, k)] [] S S' ∧ (∀ j, j < 2 ^ M → gA S' o k j = nI (cS f l (b + 1) j)) ∧ ∀ j, 2 ^ M ≤ j → gA S' o k j = gA S o k j) ⟨rfl, agC.rf S, fun j hj => absurd hj (Nat.not_lt_zero j), fun j _ hj => h0 j hj, fun _ _ => rfl⟩ ?_ ?_
  · intro i q hi hI
    obtain ⟨S1, x⟩ := q
    obtain ⟨e1, a1, v1, v2, w1⟩ := hI
    dsimp only at e1 a1 v1 v2 w1
    subst e1
    have hi8 : i < 256 := by omega
    have p : 2 ^ b < 2 ^ M := Nat.pow_lt_pow_right (by decide) hb
    have hL := hn S1 a1.2.2.2
    left
    by_cases c : i.testBit b = false
    · have hor : i ||| 2 ^ b < 2 ^ M := Nat.or_lt_two_pow hi p
      have hor8 : i ||| 2 ^ b < 256 := by omega
      have hgt : i < i ||| 2 ^ b := by
        have h1 : i ≤ i ||| 2 ^ b := Nat.left_le_or
        rcases Nat.lt_or_ge i (i ||| 2 ^ b) with z | z
        · exact z
        · have e : i ||| 2 ^ b = i := by omega
          have := tb_or_pow i b b
          rw [e, c] at this
          simp at this
      refine ⟨(pA S1 o k i (nI (cS f l (b + 1) i)), nI (i + 1)), ?_, rfl, a1.tr (agC.pA S1 o k i _ List.mem_cons_self), ?_, ?_, ?_⟩
      · show Lots_addSupersets_l26 o k (nI (2 ^ M)) (nI (2 ^ b)) S1 (nI i) = _
        unfold Lots_addSupersets_l26 Lots_addSupersets_j60_l26
        rw [hL, if_neg (by rw [mb_le (by omega) (by omega)]; omega), if_pos (by rw [and_pow_I hi8 (by omega)]; exact c), nI_or, if_neg (by rw [mb_le (by omega) (by omega)]; omega), mb_in hi8 (by omega), mb_gd, mb_in hor8 (by omega), mb_gd, mb_gd, mb_nm, mb_nm, mb_cl (by omega), mb_cl (by omega), v2 i (by omega) hi, v2 _ (by omega) hor, nI_add, ← cS_two c, nI_1]
      · intro j hj
        show gA (pA S1 o k i _) o k j = _
        rw [mb_AA]
        by_cases e : j = i
        · rw [if_pos ⟨rfl, rfl, e⟩, e]
        · rw [if_neg (fun z => e z.2.2)]; exact v1 j (by omega)
      · intro j hj hj2
        show gA (pA S1 o k i _) o k j = _
        rw [mb_AA, if_neg (fun z => by omega)]
        exact v2 j (by omega) hj2
      · intro j hj
        show gA (pA S1 o k i _) o k j = _
        rw [mb_AA, if_neg (fun z => by omega)]
        exact w1 j hj
    · refine ⟨(S1, nI (i + 1)), ?_, rfl, a1, ?_, fun j hj hj2 => v2 j (by omega) hj2, w1⟩
      · show Lots_addSupersets_l26 o k (nI (2 ^ M)) (nI (2 ^ b)) S1 (nI i) = _
        unfold Lots_addSupersets_l26 Lots_addSupersets_j60_l26
        rw [if_neg (by rw [mb_le (by omega) (by omega)]; omega), if_neg (by rw [and_pow_I hi8 (by omega)]; exact c), mb_nm, nI_1]
      · intro j hj
        by_cases e : j = i
        · rw [e, cS_one (by cases h : i.testBit b with | true => rfl | false => exact absurd h c)]
          exact v2 i (by omega) hi
        · exact v1 j (by omega)
  · intro q hI
    obtain ⟨S1, x⟩ := q
    obtain ⟨e1, a1, v1, v2, w1⟩ := hI
    dsimp only at e1 a1 v1 v2 w1
    subst e1
    refine ⟨S1, ?_, a1, v1, w1⟩
    show Lots_addSupersets_l26 o k (nI (2 ^ M)) (nI (2 ^ b)) S1 (nI (2 ^ M)) = _
    unfold Lots_addSupersets_l26
    rw [if_pos (by rw [mb_le (by omega) (by omega)]; omega)]
theorem sets_I : ∀ n, n ≤ 8 → (if ((1 : Int32) <<< (nI n &&& 31)) < nI 256 then ((1 : Int32) <<< (nI n &&& 31)) else nI 256) = nI (2 ^ n) := by decide
theorem c_supers {o k M : Nat} {S : St} {f : Nat → Nat} {l : List Nat} (hn : ∀ S', gN S' = gN S → lenC S' o k = 256) (hM : M ≤ 8) (hf : ∀ x, f x < 2 ^ M) (h0 : ∀ j, j < 256 → gA S o k j = nI (cN (fun x => Nat.beq (f x) j) l)) : ∃ S', f_Lots_addSupersets o k S (nI M) = some S' ∧ agC [] [(o, k)] [] S S' ∧ ∀ j, j < 256 → gA S' o k j = nI (cN (fun x => has (f x) j) l) := by
  have p8 := pow_le8 hM
  unfold f_Lots_addSupersets Lots_addSupersets_j73
  rw [hn S rfl, sets_I M hM, mb_nm]
  have key := wh_ix (f := un2 (Lots_addSupersets_l11 o k (nI (2 ^ M)))) (s := (S, (1 : Int32))) M (fun b q => q.2 = nI (2 ^ b) ∧ agC [] [(o, k)] [] S q.1 ∧ (∀ j, j < 2 ^ M → gA q.1 o k j = nI (cS f l b j)) ∧ ∀ j, 2 ^ M ≤ j → gA q.1 o k j = gA S o k j) (fun S' => agC [] [(o, k)] [] S S' ∧ ∀ j, j < 256 → gA S' o k j = nI (cN (fun x => has (f x) j) l)) ⟨rfl, agC.rf S, fun j hj => ?_, fun _ _ => rfl⟩ ?_ ?_
  · obtain ⟨S', h1, h2⟩ := key
    rw [h1, mb_bd]
    exact ⟨S', rfl, h2⟩
  · show gA S o k j = _
    rw [h0 j (by omega)]
    congr 1
    refine cN_cg (fun x _ => ?_)
    rw [Bool.eq_iff_iff, pSb_t, pS_0]
    exact ⟨fun q => Nat.eq_of_beq_eq_true q, fun q => by rw [q]; exact Nat.beq_refl j⟩
  · intro b q hb hI
    obtain ⟨S1, x⟩ := q
    obtain ⟨e1, a1, v1, w1⟩ := hI
    dsimp only at e1 a1 v1 w1
    subst e1
    obtain ⟨S2, h2, a2, v2, w2⟩ := c_supers1 (fun S' e => hn S' (e.trans a1.2.2.2)) hM hb v1
    have p : 2 ^ b < 2 ^ M := Nat.pow_lt_pow_right (by decide) hb
    left
    refine ⟨(S2, nI (2 ^ (b + 1))), ?_, rfl, a1.tr a2, v2, fun j hj => (w2 j hj).trans (w1 j hj)⟩
    show Lots_addSupersets_l11 o k (nI (2 ^ M)) S1 (nI (2 ^ b)) = _
    unfold Lots_addSupersets_l11
    rw [l256, if_neg (by rw [mb_le (by omega) (by omega)]; omega), if_neg (by rw [mb_le (by omega) (by omega)]; omega), h2, mb_bd, mb_nm, sh_pow1 b (by omega)]
  · intro q hI
    obtain ⟨S1, x⟩ := q
    obtain ⟨e1, a1, v1, w1⟩ := hI
    dsimp only at e1 a1 v1 w1
    subst e1
    refine ⟨S1, ?_, a1, fun j hj => ?_⟩
    · show Lots_addSupersets_l11 o k (nI (2 ^ M)) S1 (nI (2 ^ M)) = _
      unfold Lots_addSupersets_l11
      rw [if_pos (by rw [mb_le (by omega) (by omega)]; omega)]
    · by_cases c : j < 2 ^ M
      · rw [v1 j c]
        congr 1
        refine cN_cg (fun x _ => ?_)
        rw [Bool.eq_iff_iff, pSb_t]
        exact pS_M (hf x) c
      · rw [w1 j (by omega), h0 j hj]
        congr 1
        refine cN_cg (fun x _ => ?_)
        have hx := hf x
        have hl : f x &&& j ≤ f x := Nat.and_le_left
        rw [Bool.eq_iff_iff]
        constructor
        · intro z
          have := Nat.eq_of_beq_eq_true z
          omega
        · intro z
          have z : Nat.beq (f x &&& j) j = true := z
          have := Nat.eq_of_beq_eq_true z
          omega
