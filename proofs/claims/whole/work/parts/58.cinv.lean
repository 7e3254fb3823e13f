/-! the class: what holds between calls -/
def CT (tn : Nat) (tb : Nat → Int32) (pl : Int32) (S : St) : Prop := tn ≤ 2000 ∧ gI S 0 6 = nI tn ∧ gI S 0 7 = pl ∧ ∀ j, j < tn → gA S 0 0 j = tb j
/-- the live book: what it tells -/
def CB (T : Tx) (S : St) : Prop := gI S 5 10 = nI (tNf T) ∧ gI S 5 11 = nI (tIn T) ∧ (∀ f, f < tNf T → gA S 5 1 f = nI (tFr T f) ∧ gA S 5 2 f = nI (tFr T f + tMa T f - 1) ∧ gA S 5 3 f = nI (tSd T f)) ∧ (∀ s, s < 5 → gA S 5 4 s = nI (tNt T s)) ∧ ∀ k, k < tNt T 1 → gA S 5 5 k = nI (tWt T k)
/-- how far a slot's code looks -/
def RC (T : Tx) (S : St) : Prop := (∀ s k, s < 3 → k < tNt T s → ∃ r, r ≤ 6 ∧ gA S 5 9 (8 * s + k) = nI r - 1 ∧ ∀ now now' old old' : Nat → Int32, (∀ f, f < r → now f = now' f) → tCd T s k now old = tCd T s k now' old') ∧
  ∀ k, k < tNt T 4 → (∃ r, r ≤ 6 ∧ gA S 5 9 (32 + k) = nI r - 1 ∧ ∀ now now' : Nat → Int32, (∀ f, f < r → now f = now' f) → tAm T k now = tAm T k now') ∧ ∃ r, r ≤ 6 ∧ gA S 5 9 (40 + k) = nI r - 1 ∧ ∀ now now' old old' : Nat → Int32, (∀ f, f < r → now f = now' f) → tCd T 4 k now old = tCd T 4 k now' old'
def mOk (b o1 k1 o2 k2 : Nat) : Prop := (b = 6 ∧ o1 = 4 ∧ k1 = 1 ∧ o2 = 4 ∧ k2 = 1) ∨ (b = 10 ∧ o1 = 9 ∧ k1 = 1 ∧ o2 = 9 ∧ k2 = 2)
/-- what running a slot answers, in every state with the same code -/
def RO (T : Tx) (S : St) : Prop := ∀ S1, gA S1 5 6 = gA S 5 6 → gA S1 5 7 = gA S 5 7 → gA S1 5 8 = gA S 5 8 → ∀ b o1 k1 o2 k2, mOk b o1 k1 o2 k2 →
  (∀ s k, s < 4 → k < tNt T s → ∃ S2, f_Machine_run b o1 k1 o2 k2 S1 (nI (8 * s + k)) = some (b2i (tCd T s k (gA S1 o1 k1) (gA S1 o2 k2)), S2) ∧ agC [] [(b, 0)] [] S1 S2) ∧
  ∀ k, k < tNt T 4 → ((gA S 5 7 (40 + k) = gA S 5 8 (40 + k) ∧ ∀ now old, tCd T 4 k now old = true) ∨ (¬ gA S 5 7 (40 + k) = gA S 5 8 (40 + k) ∧ ∃ S2, f_Machine_run b o1 k1 o2 k2 S1 (nI (40 + k)) = some (b2i (tCd T 4 k (gA S1 o1 k1) (gA S1 o2 k2)), S2) ∧ agC [] [(b, 0)] [] S1 S2)) ∧ ∃ S2, f_Machine_run b o1 k1 o2 k2 S1 (nI (32 + k)) = some (tAm T k (gA S1 o1 k1), S2) ∧ agC [] [(b, 0)] [] S1 S2
def lnS (n : Nat) : Prop := n = 0 ∨ n = 64 ∨ n = 512 ∨ n = 4096 ∨ n = 32768
def mkN (T : Tx) (b : Bool) (i : Nat) : Nat := (bN T 0 i ||| bN T 1 i <<< 8) ||| cond b (bN T 2 i <<< 16) 0
def stN (T : Tx) (set : Nat) : Nat := cN (fun i => has (bN T 0 i) set) (List.range (tIn T))
/-- lengths -/
def CN (S : St) : Prop := lnS (gN S 4 5) ∧ gN S 4 7 = gN S 4 5 ∧ lnS (gN S 4 6) ∧ gN S 4 6 ≤ gN S 4 5
/-- the marks -/
def CM (T : Tx) (S : St) : Prop := (¬ gI S 4 13 = 0 → tIn T ≤ gN S 4 5 ∧ (∀ i, i < tIn T → gA S 4 5 i = nI (mkN T (!decide (gI S 4 14 = 0)) i)) ∧ ∀ set, set < 256 → gA S 4 2 set = nI (stN T set)) ∧ (¬ gI S 4 14 = 0 → ¬ gI S 4 13 = 0)
/-- the lawful -/
def CF (T : Tx) (on : Nat) (S : St) : Prop := gI S 4 12 = nI on ∧ on < 2 ^ tNt T 0 ∧ (¬ gI S 4 16 = 0 → ¬ gI S 4 13 = 0 ∧ gI S 4 9 = nI (lwS T on).length ∧ gI S 4 10 = nI (keS T on) ∧ ∀ k x, (lwS T on)[k]? = some x → gA S 4 7 k = nI x)
/-- the shares -/
def CS (T : Tx) (S : St) : Prop := ¬ gI S 4 15 = 0 → ¬ gI S 4 13 = 0 ∧ tIn T ≤ gN S 4 6 ∧ ∀ i, i < tIn T → gA S 4 6 i = nI (shN T i)
def CU (T : Tx) (on : Nat) (S : St) : Prop := ¬ gI S 4 17 = 0 → ¬ gI S 4 16 = 0 ∧ ¬ gI S 4 15 = 0 ∧ gI S 4 11 = nI (shSum T (lwS T on)) ∧ ∀ b, 64 * b < (lwS T on).length → gA S 4 4 b = nI (shSum T ((lwS T on).take (64 * (b + 1))))
def CL (T : Tx) (lg : List Nat) (S : St) : Prop := lg.length ≤ 200 ∧ gI S 7 1 = nI lg.length ∧ ∀ k x, lg[k]? = some x → gA S 7 0 k = nI x ∧ x < tIn T
/-- the first places of the sets of bins that are met, of the first n places, in their order -/
def SN (T : Tx) (on n m : Nat) (fk : Nat → Nat) : Prop := (∀ i, i < m → fk i < n) ∧ (∀ i j, i < j → j < m → fk i < fk j ∧ ¬ bq T on (fk i) = bq T on (fk j)) ∧ ∀ k, k < n → ∃ i, i < m ∧ fk i ≤ k ∧ bq T on (fk i) = bq T on k
def SR (T : Tx) (on n : Nat) (S : St) : Prop := ∃ m fk, m ≤ 256 ∧ gI S 8 6 = nI m ∧ SN T on n m fk ∧ ∀ i, i < m → gA S 8 1 i = nI (bq T on (fk i)) ∧ gA S 8 2 i = nI (fk i)
def CX (T : Tx) (on : Nat) (S : St) : Prop := ¬ gI S 8 8 = 0 → (∀ set, set < 256 → gA S 8 0 set = nI (spMeet T on set)) ∧ SR T on (lwS T on).length S
def CY (T : Tx) (on : Nat) (S : St) : Prop := ¬ gI S 8 9 = 0 → ∀ b, b < tNt T 2 → gA S 8 4 b = oI (leTo T on b (lwS T on).length).1
def CZ (T : Tx) (on : Nat) (lg : List Nat) (S : St) : Prop := ¬ gI S 8 10 = 0 → ¬ gI S 8 8 = 0 ∧ gI S 8 7 = nI (waS T on lg) ∧ ∀ set, set < 256 → sb set (waS T on lg) → ∃ v, gA S 8 5 set = nI v ∧ Mn (fun k => k < (lwS T on).length) (bq T on) set v
def CC (T : Tx) (on : Nat) (S : St) : Prop := ¬ gI S 9 6 = 0 → gI S 9 5 = nI (lwS T on).length ∧ (lwS T on).length ≤ 64 ∧ (∀ a b, a < (lwS T on).length → b < (lwS T on).length → (gB S 9 3 a).toBitVec.getLsbD b = flw T on a b) ∧ ∀ n a, n < 10 → a < (lwS T on).length → gB S 9 4 (64 * n + a) = lN (wyN T on n a)
def CK (T : Tx) (S : St) : Prop := CB T S ∧ RC T S ∧ RO T S
def cInv (T : Tx) (on : Nat) (lg : List Nat) (tn : Nat) (tb : Nat → Int32) (pl : Int32) (S : St) : Prop := wfT T ∧ CT tn tb pl S ∧ CK T S ∧ CN S ∧ CM T S ∧ CF T on S ∧ CS T S ∧ CU T on S ∧ CL T lg S ∧ CX T on S ∧ CY T on S ∧ CZ T on lg S ∧ CC T on S
/-! what does not touch them leaves them -/
variable {T : Tx} {on tn : Nat} {lg : List Nat} {tb : Nat → Int32} {pl : Int32} {S S' : St} {LI LA LB : List (Nat × Nat)}
theorem CT.ag (h : CT tn tb pl S) (a : agC LI LA LB S S') (h1 : (0, 6) ∉ LI ∧ (0, 7) ∉ LI ∧ (0, 0) ∉ LA) : CT tn tb pl S' := by
  unfold CT
  rw [a.1 0 6 h1.1, a.1 0 7 h1.2.1, a.2.1 0 0 h1.2.2]
  exact h
theorem CB.ag (h : CB T S) (a : agC LI LA LB S S') (h1 : (5, 10) ∉ LI ∧ (5, 11) ∉ LI) (h2 : (5, 1) ∉ LA ∧ (5, 2) ∉ LA ∧ (5, 3) ∉ LA ∧ (5, 4) ∉ LA ∧ (5, 5) ∉ LA) : CB T S' := by
  unfold CB
  rw [a.1 5 10 h1.1, a.1 5 11 h1.2, a.2.1 5 1 h2.1, a.2.1 5 2 h2.2.1, a.2.1 5 3 h2.2.2.1, a.2.1 5 4 h2.2.2.2.1, a.2.1 5 5 h2.2.2.2.2]
  exact h
theorem RC.ag (h : RC T S) (a : agC LI LA LB S S') (h2 : (5, 9) ∉ LA) : RC T S' := by
  unfold RC
  rw [a.2.1 5 9 h2]
  exact h
theorem RO.ag (h : RO T S) (a : agC LI LA LB S S') (h2 : (5, 6) ∉ LA ∧ (5, 7) ∉ LA ∧ (5, 8) ∉ LA) : RO T S' := by
  unfold RO
  rw [a.2.1 5 6 h2.1, a.2.1 5 7 h2.2.1, a.2.1 5 8 h2.2.2]
  exact h
def bkI : List (Nat × Nat) := [(5, 10), (5, 11)]
def bkA : List (Nat × Nat) := [(5, 1), (5, 2), (5, 3), (5, 4), (5, 5), (5, 6), (5, 7), (5, 8), (5, 9)]
theorem CK.ag (h : CK T S) (a : agC LI LA LB S S') (h1 : ∀ q ∈ bkI, q ∉ LI) (h2 : ∀ q ∈ bkA, q ∉ LA) : CK T S' :=
  ⟨h.1.ag a ⟨h1 _ (by decide), h1 _ (by decide)⟩ ⟨h2 _ (by decide), h2 _ (by decide), h2 _ (by decide), h2 _ (by decide), h2 _ (by decide)⟩, h.2.1.ag a (h2 _ (by decide)), h.2.2.ag a ⟨h2 _ (by decide), h2 _ (by decide), h2 _ (by decide)⟩⟩
theorem CN.ag (h : CN S) (a : agC LI LA LB S S') : CN S' := by
  unfold CN
  rw [a.2.2.2]
  exact h
theorem CM.ag (h : CM T S) (a : agC LI LA LB S S') (h1 : (4, 13) ∉ LI ∧ (4, 14) ∉ LI) (h2 : (4, 5) ∉ LA ∧ (4, 2) ∉ LA) : CM T S' := by
  unfold CM
  rw [a.1 4 13 h1.1, a.1 4 14 h1.2, a.2.1 4 5 h2.1, a.2.1 4 2 h2.2, a.2.2.2]
  exact h
theorem CF.ag (h : CF T on S) (a : agC LI LA LB S S') (h1 : (4, 12) ∉ LI ∧ (4, 16) ∉ LI ∧ (4, 13) ∉ LI ∧ (4, 9) ∉ LI ∧ (4, 10) ∉ LI) (h2 : (4, 7) ∉ LA) : CF T on S' := by
  unfold CF
  rw [a.1 4 12 h1.1, a.1 4 16 h1.2.1, a.1 4 13 h1.2.2.1, a.1 4 9 h1.2.2.2.1, a.1 4 10 h1.2.2.2.2, a.2.1 4 7 h2]
  exact h
theorem CS.ag (h : CS T S) (a : agC LI LA LB S S') (h1 : (4, 15) ∉ LI ∧ (4, 13) ∉ LI) (h2 : (4, 6) ∉ LA) : CS T S' := by
  unfold CS
  rw [a.1 4 15 h1.1, a.1 4 13 h1.2, a.2.1 4 6 h2, a.2.2.2]
  exact h
theorem CU.ag (h : CU T on S) (a : agC LI LA LB S S') (h1 : (4, 17) ∉ LI ∧ (4, 16) ∉ LI ∧ (4, 15) ∉ LI ∧ (4, 11) ∉ LI) (h2 : (4, 4) ∉ LA) : CU T on S' := by
  unfold CU
  rw [a.1 4 17 h1.1, a.1 4 16 h1.2.1, a.1 4 15 h1.2.2.1, a.1 4 11 h1.2.2.2, a.2.1 4 4 h2]
  exact h
theorem CL.ag (h : CL T lg S) (a : agC LI LA LB S S') (h1 : (7, 1) ∉ LI) (h2 : (7, 0) ∉ LA) : CL T lg S' := by
  unfold CL
  rw [a.1 7 1 h1, a.2.1 7 0 h2]
  exact h
theorem CX.ag (h : CX T on S) (a : agC LI LA LB S S') (h1 : (8, 8) ∉ LI ∧ (8, 6) ∉ LI) (h2 : (8, 0) ∉ LA ∧ (8, 1) ∉ LA ∧ (8, 2) ∉ LA) : CX T on S' := by
  unfold CX SR
  rw [a.1 8 8 h1.1, a.1 8 6 h1.2, a.2.1 8 0 h2.1, a.2.1 8 1 h2.2.1, a.2.1 8 2 h2.2.2]
  exact h
theorem CY.ag (h : CY T on S) (a : agC LI LA LB S S') (h1 : (8, 9) ∉ LI) (h2 : (8, 4) ∉ LA) : CY T on S' := by
  unfold CY
  rw [a.1 8 9 h1, a.2.1 8 4 h2]
  exact h
theorem CZ.ag (h : CZ T on lg S) (a : agC LI LA LB S S') (h1 : (8, 10) ∉ LI ∧ (8, 8) ∉ LI ∧ (8, 7) ∉ LI) (h2 : (8, 5) ∉ LA) : CZ T on lg S' := by
  unfold CZ
  rw [a.1 8 10 h1.1, a.1 8 8 h1.2.1, a.1 8 7 h1.2.2, a.2.1 8 5 h2]
  exact h
theorem CC.ag (h : CC T on S) (a : agC LI LA LB S S') (h1 : (9, 6) ∉ LI ∧ (9, 5) ∉ LI) (h2 : (9, 3) ∉ LB ∧ (9, 4) ∉ LB) : CC T on S' := by
  unfold CC
  rw [a.1 9 6 h1.1, a.1 9 5 h1.2, a.2.2.1 9 3 h2.1, a.2.2.1 9 4 h2.2]
  exact h
/-! small readings of the book -/
theorem c_toldOf (h : CB T S) {s : Nat} (hs : s < 5) : f_Book_toldOf 5 S (nI s) = some (nI (tNt T s)) := by
  unfold f_Book_toldOf Book_toldOf_j23
  rw [if_neg (nI_pos (by omega)), if_neg (by show ¬ nI 6 ≤ nI s; rw [mb_le (by omega) (by omega)]; omega), show lenC S 5 4 = 6 from rfl, mb_in (by omega) (by decide), mb_gd, mb_cl (by omega), h.2.2.2.1 s hs]
theorem c_has (h : CB T S) {s : Nat} (hs : s < 5) (x : Int32) : f_Book_has S (nI s) x = some (ixB x (tNt T s)) := by
  unfold f_Book_has Book_has_j17 Book_has_j18
  rw [c_toldOf h hs, mb_bd]
  unfold ixB ixN
  by_cases c1 : x < 0
  · rw [if_pos c1, if_pos c1]; rfl
  · rw [if_neg c1, if_neg c1]
    by_cases c2 : nI (tNt T s) ≤ x
    · rw [if_pos c2, if_pos c2]; rfl
    · rw [if_neg c2, if_neg c2]; rfl
theorem c_valueIn (hw : wfT T) (h : CB T S) {i f : Nat} (hi : i < 32768) (hf : f < tNf T) : f_Book_valueIn S (nI i) (nI f) = some (nI (tVa T i f)) := by
  have n6 := hw.1
  have p1 := tSd_pos hw hf
  have p2 := tSd_le hw hf
  have p3 := hw.2.2.1
  have p4 := hw.2.1 f hf
  obtain ⟨e1, e2, e3⟩ := h.2.2.1 f hf
  have hs : nI (tFr T f + tMa T f - 1) - nI (tFr T f) + 1 = nI (tMa T f) := by
    rw [pk_sub (by omega), nI_1]
    congr 1
    omega
  have hq : i / tSd T f ≤ i := Nat.div_le_self _ _
  unfold f_Book_valueIn Book_valueIn_j69
  rw [if_neg (nI_pos (by omega)), h.1, if_neg (by rw [mb_le (by omega) (by omega)]; omega), l6, if_pos (by rw [mb_lt (by omega) (by omega)]; omega), mb_in (by omega) (by decide), mb_gd, mb_gd, mb_nm, mb_gd, mb_gd, mb_cl (by omega), e1, e2, e3, hs, if_neg (by rw [l0, mb_le (by omega) (by omega)]; omega), if_neg (by rw [l0, mb_le (by omega) (by omega)]; omega), mb_gd, nz_nI (by omega) (by omega), mb_gd, nz_nI (by omega) (by omega), mb_gd, pk_div (by omega) (by omega) (by omega), pk_rem (by omega) (by omega) (by omega), nI_add]
  rfl
theorem c_valueIn0 (h : CB T S) {x : Int32} (y : Int32) (hx : ixN x (tNf T) = none) : f_Book_valueIn S y x = some (-1) := by
  unfold f_Book_valueIn Book_valueIn_j18
  rcases ixN_n hx with c | ⟨c, d⟩
  · rw [if_pos c]
  · rw [if_neg c, h.1, if_pos d]
