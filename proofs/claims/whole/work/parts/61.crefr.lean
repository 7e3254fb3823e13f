/-! the class: refresh, its parts -/
/-- as agC, but for lengths -/
def agD (LI LA LB : List (Nat × Nat)) (S S' : St) : Prop := (∀ o k, (o, k) ∉ LI → gI S' o k = gI S o k) ∧ (∀ o k, (o, k) ∉ LA → gA S' o k = gA S o k) ∧ (∀ o k, (o, k) ∉ LB → gB S' o k = gB S o k)
theorem agC.D {LI LA LB : List (Nat × Nat)} {A B : St} (h : agC LI LA LB A B) : agD LI LA LB A B := ⟨h.1, h.2.1, h.2.2.1⟩
theorem agD.rf {LI LA LB : List (Nat × Nat)} (S : St) : agD LI LA LB S S := ⟨fun _ _ _ => rfl, fun _ _ _ => rfl, fun _ _ _ => rfl⟩
theorem agD.tr {LI LA LB : List (Nat × Nat)} {A B C : St} (h1 : agD LI LA LB A B) (h2 : agD LI LA LB B C) : agD LI LA LB A C := ⟨fun o k hk => (h2.1 o k hk).trans (h1.1 o k hk), fun o k hk => (h2.2.1 o k hk).trans (h1.2.1 o k hk), fun o k hk => (h2.2.2 o k hk).trans (h1.2.2 o k hk)⟩
theorem agD.wk {LI LA LB LI' LA' LB' : List (Nat × Nat)} {A B : St} (h : agD LI LA LB A B) (h1 : ∀ q, q ∈ LI → q ∈ LI') (h2 : ∀ q, q ∈ LA → q ∈ LA') (h3 : ∀ q, q ∈ LB → q ∈ LB') : agD LI' LA' LB' A B := ⟨fun o k hk => h.1 o k (fun q => hk (h1 _ q)), fun o k hk => h.2.1 o k (fun q => hk (h2 _ q)), fun o k hk => h.2.2 o k (fun q => hk (h3 _ q))⟩
theorem agD.pZ (S : St) (o k n : Nat) {LI LA LB : List (Nat × Nat)} (hk : (o, k) ∈ LA) : agD LI LA LB S (pZ S o k n) := by
  refine ⟨fun _ _ _ => rfl, fun a b hq => ?_, fun _ _ _ => rfl⟩
  funext c
  rw [mb_AZ, if_neg]
  intro z
  rw [z.1, z.2] at hq
  exact hq hk
theorem CK.agD {T : Tx} {S S' : St} {LI LA LB : List (Nat × Nat)} (h : CK T S) (a : agD LI LA LB S S') (h1 : ∀ q ∈ bkI, q ∉ LI) (h2 : ∀ q ∈ bkA, q ∉ LA) : CK T S' := by
  obtain ⟨g1, g2, g3⟩ := h
  refine ⟨?_, ?_, ?_⟩
  · unfold CB
    rw [a.1 5 10 (h1 _ (by decide)), a.1 5 11 (h1 _ (by decide)), a.2.1 5 1 (h2 _ (by decide)), a.2.1 5 2 (h2 _ (by decide)), a.2.1 5 3 (h2 _ (by decide)), a.2.1 5 4 (h2 _ (by decide)), a.2.1 5 5 (h2 _ (by decide))]
    exact g1
  · unfold RC
    rw [a.2.1 5 9 (h2 _ (by decide))]
    exact g2
  · unfold RO
    rw [a.2.1 5 6 (h2 _ (by decide)), a.2.1 5 7 (h2 _ (by decide)), a.2.1 5 8 (h2 _ (by decide))]
    exact g3
/-! the marks of an input, taken apart -/
theorem bN_hi {T : Tx} (hw : wfT T) {s : Nat} (hs : s < 5) (i : Nat) {j : Nat} (hj : 8 ≤ j) : (bN T s i).testBit j = false :=
  Nat.testBit_lt_two_pow (Nat.lt_of_lt_of_le (bN_lt hw hs i) (Nat.pow_le_pow_right (n := 2) (j := j) (by decide) hj))
theorem mk_tb (T : Tx) (b : Bool) (i j : Nat) : (mkN T b i).testBit j = ((bN T 0 i).testBit j || (decide (8 ≤ j) && (bN T 1 i).testBit (j - 8)) || (b && decide (16 ≤ j) && (bN T 2 i).testBit (j - 16))) := by
  unfold mkN
  rw [Nat.testBit_or, Nat.testBit_or, Nat.testBit_shiftLeft]
  congr 1
  cases b
  · show (0 : Nat).testBit j = _
    simp
  · show (bN T 2 i <<< 16).testBit j = _
    rw [Nat.testBit_shiftLeft]
    simp
theorem mk_lt {T : Tx} (hw : wfT T) (b : Bool) (i : Nat) : mkN T b i < 16777216 := by
  have : mkN T b i < 2 ^ 24 := Nat.lt_pow_two_of_testBit _ (fun j hj => by
    rw [mk_tb, bN_hi hw (by decide) i (show 8 ≤ j by omega), bN_hi hw (by decide) i (show 8 ≤ j - 8 by omega), bN_hi hw (by decide) i (show 8 ≤ j - 16 by omega)]
    simp)
  exact this
theorem mk_and {T : Tx} (hw : wfT T) (b : Bool) (i : Nat) {m : Nat} (hm : m < 256) : mkN T b i &&& m = bN T 0 i &&& m := tb_ext (fun j => by
  rw [Nat.testBit_and, Nat.testBit_and, mk_tb]
  by_cases c : 8 ≤ j
  · have : m.testBit j = false := Nat.testBit_lt_two_pow (Nat.lt_of_lt_of_le hm (Nat.pow_le_pow_right (n := 2) (j := j) (by decide) c))
    rw [this]
    simp
  · rw [decide_eq_false c, decide_eq_false (show ¬ 16 ≤ j by omega)]
    simp)
theorem lt_and255 {m : Nat} (h : m < 256) : m &&& 255 = m := by
  rw [show (255 : Nat) = 2 ^ 8 - 1 from rfl, Nat.and_two_pow_sub_one_eq_mod]
  exact Nat.mod_eq_of_lt h
theorem mk_0 {T : Tx} (hw : wfT T) (b : Bool) (i : Nat) : nI (mkN T b i) &&& 255 = nI (bN T 0 i) := by
  rw [show (255 : Int32) = nI 255 from rfl, nI_and, mk_and hw b i (by decide), lt_and255 (bN_lt hw (by decide) i)]
theorem mk_on {T : Tx} (hw : wfT T) (b : Bool) (i : Nat) {on : Nat} (ho : on < 256) : (nI (mkN T b i) &&& nI on = nI on) = (has (bN T 0 i) on = true) := by
  rw [nI_and, mk_and hw b i ho, ← nI_and, has_I (bN_lt hw (by decide) i) ho]
theorem mk_1 {T : Tx} (hw : wfT T) (b : Bool) (i : Nat) : (nI (mkN T b i) >>> ((8 : Int32) &&& 31)) &&& 255 = nI (bN T 1 i) := by
  have hl := mk_lt hw b i
  rw [pk_shrN (by omega) _ 8 (by decide), show (255 : Int32) = nI 255 from rfl, nI_and]
  congr 1
  apply tb_ext
  intro j
  rw [Nat.testBit_and, Nat.testBit_div_two_pow, mk_tb, show (255 : Nat) = 2 ^ 8 - 1 from rfl, Nat.testBit_two_pow_sub_one, bN_hi hw (by decide) i (show 8 ≤ j + 8 by omega), show j + 8 - 8 = j by omega]
  by_cases c : j < 8
  · rw [decide_eq_true c, decide_eq_true (show 8 ≤ j + 8 by omega), decide_eq_false (show ¬ 16 ≤ j + 8 by omega)]
    simp
  · rw [decide_eq_false c, bN_hi hw (by decide) i (show 8 ≤ j by omega)]
    simp
theorem mk_2 {T : Tx} (hw : wfT T) (i : Nat) : (nI (mkN T true i) >>> ((16 : Int32) &&& 31)) &&& 255 = nI (bN T 2 i) := by
  have hl := mk_lt hw true i
  rw [pk_shrN (by omega) _ 16 (by decide), show (255 : Int32) = nI 255 from rfl, nI_and]
  congr 1
  apply tb_ext
  intro j
  rw [Nat.testBit_and, Nat.testBit_div_two_pow, mk_tb, show (255 : Nat) = 2 ^ 8 - 1 from rfl, Nat.testBit_two_pow_sub_one, bN_hi hw (by decide) i (show 8 ≤ j + 16 by omega), bN_hi hw (by decide) i (show 8 ≤ j + 16 - 8 by omega), show j + 16 - 16 = j by omega]
  by_cases c : j < 8
  · rw [decide_eq_true c, decide_eq_true (show 16 ≤ j + 16 by omega)]
    simp
  · rw [decide_eq_false c, bN_hi hw (by decide) i (show 8 ≤ j by omega)]
    simp
theorem mk_ke {T : Tx} (hw : wfT T) (b : Bool) (i : Nat) {ke : Nat} (hk : ke < 256) : mkN T b i &&& ke <<< 8 = (bN T 1 i &&& ke) <<< 8 := tb_ext (fun j => by
  rw [Nat.testBit_and, Nat.testBit_shiftLeft, Nat.testBit_shiftLeft, Nat.testBit_and, mk_tb]
  by_cases c : 8 ≤ j
  · rw [bN_hi hw (by decide) i c, decide_eq_true c]
    by_cases d : 16 ≤ j
    · have : ke.testBit (j - 8) = false := Nat.testBit_lt_two_pow (Nat.lt_of_lt_of_le hk (Nat.pow_le_pow_right (n := 2) (i := 8) (j := j - 8) (by decide) (by omega)))
      rw [this]
      simp
    · rw [decide_eq_false d]
      simp
  · rw [decide_eq_false (show ¬ j ≥ 8 from c)]
    simp)
theorem shl8_inj {a b : Nat} (h : a <<< 8 = b <<< 8) : a = b := by
  rw [Nat.shiftLeft_eq, Nat.shiftLeft_eq] at h
  omega
theorem mk_keI {T : Tx} (hw : wfT T) (b : Bool) (i : Nat) {ke : Nat} (hk : ke < 256) : (nI (mkN T b i) &&& nI (ke <<< 8) = nI (ke <<< 8)) = (has (bN T 1 i) ke = true) := by
  have h1 : bN T 1 i &&& ke < 256 := Nat.lt_of_le_of_lt Nat.and_le_right hk
  have h2 : (bN T 1 i &&& ke) <<< 8 < 65536 := by rw [Nat.shiftLeft_eq]; omega
  have h3 : ke <<< 8 < 65536 := by rw [Nat.shiftLeft_eq]; omega
  rw [nI_and, mk_ke hw b i hk, mb_eq (by omega) (by omega)]
  unfold has
  exact propext ⟨fun e => by rw [shl8_inj e]; exact Nat.beq_refl ke, fun e => by rw [Nat.eq_of_beq_eq_true e]⟩
theorem ke_shl {ke : Nat} (hk : ke < 256) : nI ke <<< ((8 : Int32) &&& 31) = nI (ke <<< 8) := by
  rw [pk_shlN _ 8 (by decide) (by omega), Nat.shiftLeft_eq]
theorem or_shl {on ke : Nat} (ho : on < 256) (hk : ke < 256) (m : Nat) : (m &&& (on ||| ke <<< 8) = on ||| ke <<< 8) ↔ (m &&& on = on ∧ m &&& ke <<< 8 = ke <<< 8) := by
  constructor
  · intro h
    constructor
    · apply tb_ext
      intro j
      have := congrArg (fun z => z.testBit j) h
      simp only [Nat.testBit_and, Nat.testBit_or] at this ⊢
      revert this
      cases m.testBit j <;> cases on.testBit j <;> cases (ke <<< 8).testBit j <;> simp
    · apply tb_ext
      intro j
      have := congrArg (fun z => z.testBit j) h
      simp only [Nat.testBit_and, Nat.testBit_or] at this ⊢
      revert this
      cases m.testBit j <;> cases on.testBit j <;> cases (ke <<< 8).testBit j <;> simp
  · rintro ⟨h1, h2⟩
    rw [Nat.and_or_distrib_left, h1, h2]
/-! rooms -/
def rmN (n : Nat) : Nat := if n ≤ 64 then 64 else if n ≤ 512 then 512 else if n ≤ 4096 then 4096 else 32768
theorem rm_ge {n : Nat} (h : n ≤ 32768) : n ≤ rmN n := by
  unfold rmN
  split
  · omega
  · split
    · omega
    · split <;> omega
theorem rm_ln (n : Nat) : rmN n = 64 ∨ rmN n = 512 ∨ rmN n = 4096 ∨ rmN n = 32768 := by
  unfold rmN
  split
  · exact Or.inl rfl
  · split
    · exact Or.inr (Or.inl rfl)
    · split
      · exact Or.inr (Or.inr (Or.inl rfl))
      · exact Or.inr (Or.inr (Or.inr rfl))
theorem c_room {n : Nat} (h : n ≤ 32768) : f_Chart_roomFor (nI n) = some (nI (rmN n)) := by
  have st : ∀ a, a < 32768 → Chart_roomFor_l3 (nI n) (nI a) = (if a < n then some (.inl (nI (a * 8))) else some (.inr (nI a))) := by
    intro a ha
    unfold Chart_roomFor_l3
    rw [show (32768 : Int32) = nI 32768 from rfl, if_neg (by rw [mb_le (by omega) (by omega)]; omega), mb_nm, l8, pk_mul]
    by_cases c : a < n
    · rw [if_pos c, if_pos (by rw [mb_lt (by omega) (by omega)]; exact c)]
    · rw [if_neg c, if_neg (by rw [mb_lt (by omega) (by omega)]; exact c)]
  have en : Chart_roomFor_l3 (nI n) (nI 32768) = some (.inr (nI 32768)) := by
    unfold Chart_roomFor_l3
    rw [if_pos (by decide)]
    rfl
  unfold f_Chart_roomFor
  show wh (Chart_roomFor_l3 (nI n)) (nI 64) = _
  unfold rmN
  by_cases c1 : n ≤ 64
  · rw [if_pos c1]
    exact wh_inr (by rw [st 64 (by decide), if_neg (by omega)])
  · rw [if_neg c1, wh_inl (t := nI 512) (by rw [st 64 (by decide), if_pos (by omega)])]
    by_cases c2 : n ≤ 512
    · rw [if_pos c2]
      exact wh_inr (by rw [st 512 (by decide), if_neg (by omega)])
    · rw [if_neg c2, wh_inl (t := nI 4096) (by rw [st 512 (by decide), if_pos (by omega)])]
      by_cases c3 : n ≤ 4096
      · rw [if_pos c3]
        exact wh_inr (by rw [st 4096 (by decide), if_neg (by omega)])
      · rw [if_neg c3, wh_inl (t := nI 32768) (by rw [st 4096 (by decide), if_pos (by omega)])]
        exact wh_inr en
