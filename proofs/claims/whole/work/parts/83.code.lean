/-! what codes come to: stacks of numbers that hang on the fields -/
abbrev Sem : Type := (Nat → Int32) → (Nat → Int32) → Int32
def apO (x : Nat) (a b : Int32) : Int32 := if x = 5 then a + b else if x = 6 then a - b else if x = 7 then a * b else if x = 8 then b2i (decide (a = b)) else if x = 9 then b2i (!decide (a = b)) else if x = 10 then b2i (!decide (b ≤ a)) else if x = 11 then b2i (!decide (b < a)) else if x = 24 then a &&& b else a ||| b
def isB2 (x : Nat) : Bool := Nat.beq x 5 || Nat.beq x 6 || Nat.beq x 7 || Nat.beq x 8 || Nat.beq x 9 || Nat.beq x 10 || Nat.beq x 11 || Nat.beq x 23 || Nat.beq x 24
def stI (c : Nat × Nat) (s : List Sem) : List Sem :=
  if c.1 = 3 then (fun _ _ => nI c.2) :: s else if c.1 = 2 then (fun now _ => now c.2) :: s else if c.1 = 26 then (fun _ old => old c.2) :: s
  else if c.1 = 25 then (match s with | [] => [] | f :: r => (fun now old => 1 - f now old) :: r)
  else (match s with | g :: f :: r => (fun now old => apO c.1 (f now old) (g now old)) :: r | _ => [])
def ok1 (nf : Nat) (c : Nat × Nat) (l : Nat) : Prop := (c.1 = 3 ∧ c.2 < 10000 ∧ l ≤ 60) ∨ ((c.1 = 2 ∨ c.1 = 26) ∧ c.2 < nf ∧ l ≤ 60) ∨ (c.1 = 25 ∧ c.2 = 0 ∧ 1 ≤ l) ∨ (isB2 c.1 = true ∧ c.2 = 0 ∧ 2 ≤ l)
def rnS : List (Nat × Nat) → List Sem → List Sem
  | [], s => s
  | c :: r, s => rnS r (stI c s)
def okI (nf : Nat) : List (Nat × Nat) → List Sem → Prop
  | [], _ => True
  | c :: r, s => ok1 nf c s.length ∧ s.length ≤ 61 ∧ okI nf r (stI c s)
theorem rnS_snoc (c : Nat × Nat) : ∀ (l : List (Nat × Nat)) (s : List Sem), rnS (l ++ [c]) s = stI c (rnS l s)
  | [], _ => rfl
  | d :: l, s => rnS_snoc c l (stI d s)
theorem okI_snoc {nf : Nat} (c : Nat × Nat) : ∀ {l : List (Nat × Nat)} {s : List Sem}, okI nf l s → ok1 nf c (rnS l s).length → (rnS l s).length ≤ 61 → okI nf (l ++ [c]) s
  | [], _, _, h, h2 => ⟨h, h2, trivial⟩
  | d :: l, s, h, h1, h2 => ⟨h.1, h.2.1, okI_snoc c (l := l) (s := stI d s) h.2.2 h1 h2⟩
theorem ok1_mono {nf nf' : Nat} (hn : nf ≤ nf') {c : Nat × Nat} {l : Nat} (h : ok1 nf c l) : ok1 nf' c l := by
  rcases h with h | ⟨h1, h2⟩ | h | h
  · exact Or.inl h
  · exact Or.inr (Or.inl ⟨h1, by omega⟩)
  · exact Or.inr (Or.inr (Or.inl h))
  · exact Or.inr (Or.inr (Or.inr h))
theorem okI_mono {nf nf' : Nat} (hn : nf ≤ nf') : ∀ {l : List (Nat × Nat)} {s : List Sem}, okI nf l s → okI nf' l s
  | [], _, _ => trivial
  | _ :: _, _, h => ⟨ok1_mono hn h.1, h.2.1, okI_mono hn h.2.2⟩
theorem st_not (d : Nat) (f : Sem) (r : List Sem) : stI (25, d) (f :: r) = (fun now old => 1 - f now old) :: r := rfl
theorem st_bin {x : Nat} (hx : isB2 x = true) (d : Nat) (g f : Sem) (r : List Sem) : stI (x, d) (g :: f :: r) = (fun now old => apO x (f now old) (g now old)) :: r := by
  have h : ¬ x = 3 ∧ ¬ x = 2 ∧ ¬ x = 26 ∧ ¬ x = 25 := by
    refine ⟨?_, ?_, ?_, ?_⟩ <;> (intro e; subst e; revert hx; decide)
  unfold stI
  rw [if_neg h.1, if_neg h.2.1, if_neg h.2.2.1, if_neg h.2.2.2]
def ev (now old : Nat → Int32) (s : List Sem) : List Int32 := s.map (fun f => f now old)
theorem ev_len (now old : Nat → Int32) (s : List Sem) : (ev now old s).length = s.length := List.length_map ..
def wd (c : Nat × Nat) : Int32 := nI (32 * c.2 + c.1)
def STK (A : Nat → Int32) (s : List Int32) (x7 x8 : Int32) : Prop := x7 = nI s.length ∧ x8 = s.headD 0 ∧ ∀ j, 1 ≤ j → j < s.length → A j = s.getD (s.length - j) 0
theorem wd_k {d k : Nat} (hd : d < 10000) (hk : k < 32) : nI (32 * d + k) &&& 31 = nI k ∧ nI (32 * d + k) >>> ((5 : Int32) &&& 31) = nI d := by
  constructor
  · rw [show (31 : Int32) = nI 31 from rfl, nI_and]
    congr 1
    have := Nat.and_two_pow_sub_one_eq_mod (32 * d + k) 5
    rw [show (2 : Nat) ^ 5 - 1 = 31 from rfl, show (2 : Nat) ^ 5 = 32 from rfl] at this
    rw [this]
    omega
  · rw [pk_shrN (by omega) _ 5 (by decide)]
    congr 1
    rw [show (2 : Nat) ^ 5 = 32 from rfl]
    omega
theorem nI_7 : ∀ d, d < 8 → nI d &&& (7 : Int32) = nI d := by decide
theorem nI_63 : ∀ d, d < 64 → nI d &&& (63 : Int32) = nI d := by decide
theorem mo_len {b o1 k1 o2 k2 : Nat} (hm : mOk b o1 k1 o2 k2) (S : St) : lenC S b 0 = 64 ∧ lenC S o1 k1 = 8 ∧ lenC S o2 k2 = 8 ∧ ¬ (o1 = b ∧ k1 = 0) ∧ ¬ (o2 = b ∧ k2 = 0) ∧ ¬ b = 5 := by
  rcases hm with ⟨rfl, rfl, rfl, rfl, rfl⟩ | ⟨rfl, rfl, rfl, rfl, rfl⟩
  · exact ⟨rfl, rfl, rfl, by decide, by decide, by decide⟩
  · exact ⟨rfl, rfl, rfl, by decide, by decide, by decide⟩
theorem STK.push {A : Nat → Int32} {s : List Int32} {x7 x8 : Int32} (h : STK A s x7 x8) (x : Int32) (A' : Nat → Int32) (hA : ∀ j, A' j = if j = s.length then x8 else A j) : STK A' (x :: s) (nI (s.length + 1)) x := by
  obtain ⟨h1, h2, h3⟩ := h
  refine ⟨rfl, rfl, fun j hj hl => ?_⟩
  have hl : j < s.length + 1 := hl
  show A' j = (x :: s).getD (s.length + 1 - j) 0
  rw [hA j]
  by_cases e : j = s.length
  · rw [if_pos e, e, show s.length + 1 - s.length = 0 + 1 by omega, List.getD_cons_succ, h2]
    cases s with
    | nil => rfl
    | cons a r => rfl
  · rw [if_neg e, show s.length + 1 - j = (s.length - j) + 1 by omega, List.getD_cons_succ]
    exact h3 j hj (by omega)
theorem STK.bin {A : Nat → Int32} {r : List Int32} {g f x7 x8 : Int32} (h : STK A (g :: f :: r) x7 x8) (y : Int32) : STK A (y :: r) (nI (r.length + 1)) y ∧ x7 + (-1) = nI (r.length + 1) ∧ A (r.length + 1) = f ∧ x8 = g := by
  obtain ⟨h1, h2, h3⟩ := h
  refine ⟨⟨rfl, rfl, fun j hj hl => ?_⟩, ?_, ?_, h2⟩
  · have hl : j < r.length + 1 := hl
    have := h3 j hj (by show j < r.length + 1 + 1; omega)
    rw [this]
    show (g :: f :: r).getD (r.length + 1 + 1 - j) 0 = (y :: r).getD (r.length + 1 - j) 0
    rw [show r.length + 1 + 1 - j = (r.length - j) + 1 + 1 by omega, show r.length + 1 - j = (r.length - j) + 1 by omega, List.getD_cons_succ, List.getD_cons_succ, List.getD_cons_succ]
  · rw [h1]
    exact mb_m1 (r.length + 1)
  · have := h3 (r.length + 1) (by omega) (by show r.length + 1 < r.length + 1 + 1; omega)
    rw [this]
    show (g :: f :: r).getD (r.length + 1 + 1 - (r.length + 1)) 0 = f
    rw [show r.length + 1 + 1 - (r.length + 1) = 0 + 1 by omega]
    rfl
theorem STK.un {A : Nat → Int32} {r : List Int32} {f x7 x8 : Int32} (h : STK A (f :: r) x7 x8) (y : Int32) : STK A (y :: r) x7 y ∧ x8 = f := by
  obtain ⟨h1, h2, h3⟩ := h
  refine ⟨⟨h1, rfl, fun j hj hl => ?_⟩, h2⟩
  have hl : j < r.length + 1 := hl
  rw [h3 j hj hl]
  show (f :: r).getD (r.length + 1 - j) 0 = (y :: r).getD (r.length + 1 - j) 0
  rw [show r.length + 1 - j = (r.length - j) + 1 by omega, List.getD_cons_succ, List.getD_cons_succ]
variable {b o1 k1 o2 k2 : Nat} {S : St}
theorem mr_int (hm : mOk b o1 k1 o2 k2) {a e : Nat} {s : List Sem} {x7 x8 : Int32} (ha : a < e) (he : e ≤ 400) {d : Nat} (hd : d < 10000) (hc : gA S 5 6 a = nI (32 * d + 3)) (hl : s.length ≤ 61) (hs : STK (gA S b 0) (ev (gA S o1 k1) (gA S o2 k2) s) x7 x8) : ∃ S' y7 y8, Machine_run_l55 b o1 k1 o2 k2 (nI e) S x7 x8 (nI a) = some (.inl (S', y7, y8, nI (a + 1))) ∧ agC [] [(b, 0)] [] S S' ∧ STK (gA S' b 0) (ev (gA S o1 k1) (gA S o2 k2) (stI (3, d) s)) y7 y8 := by
  obtain ⟨L1, L2, L3, L4, L5, L6⟩ := mo_len hm S
  obtain ⟨w1, w2⟩ := wd_k (d := d) (k := 3) (by omega) (by decide)
  have hs7 := hs.1
  rw [ev_len] at hs7
  refine ⟨pA S b 0 s.length x8, nI (s.length + 1), nI d, ?_, agC.pA S b 0 _ _ List.mem_cons_self, ?_⟩
  · unfold Machine_run_l55 Machine_run_j506_l55
    rw [if_neg (nI_pos (by omega)), if_neg (by rw [mb_le (by omega) (by omega)]; omega), show lenC S 5 6 = 400 from rfl, if_neg (by rw [mb_le (by omega) (by omega)]; omega), mb_in (by omega) (by decide), mb_gd, mb_cl (by omega), hc, mb_nm, w1, mb_nm, if_neg (by decide), if_pos (by rfl), mb_nm, hs7, nI_1, nI_63 _ (by omega), L1, mb_in (by omega) (by decide), mb_gd, mb_nm, mb_cl (by omega), w2, mb_nm, mb_nm, nI_1]
  · have := hs.push (nI d) (gA (pA S b 0 s.length x8) b 0) (fun j => by
      rw [mb_AA, ev_len]
      by_cases e : j = s.length
      · rw [if_pos ⟨rfl, rfl, e⟩, if_pos e]
      · rw [if_neg (fun z => e z.2.2), if_neg e])
    rw [ev_len] at this
    exact this
theorem mr_name (hm : mOk b o1 k1 o2 k2) {a e : Nat} {s : List Sem} {x7 x8 : Int32} (ha : a < e) (he : e ≤ 400) {d : Nat} (hd : d < 8) (hc : gA S 5 6 a = nI (32 * d + 2)) (hl : s.length ≤ 61) (hs : STK (gA S b 0) (ev (gA S o1 k1) (gA S o2 k2) s) x7 x8) : ∃ S' y7 y8, Machine_run_l55 b o1 k1 o2 k2 (nI e) S x7 x8 (nI a) = some (.inl (S', y7, y8, nI (a + 1))) ∧ agC [] [(b, 0)] [] S S' ∧ STK (gA S' b 0) (ev (gA S o1 k1) (gA S o2 k2) (stI (2, d) s)) y7 y8 := by
  obtain ⟨L1, L2, L3, L4, L5, L6⟩ := mo_len hm S
  obtain ⟨w1, w2⟩ := wd_k (d := d) (k := 2) (by omega) (by decide)
  have hs7 := hs.1
  rw [ev_len] at hs7
  refine ⟨pA S b 0 s.length x8, nI (s.length + 1), gA S o1 k1 d, ?_, agC.pA S b 0 _ _ List.mem_cons_self, ?_⟩
  · unfold Machine_run_l55 Machine_run_j506_l55
    rw [if_neg (nI_pos (by omega)), if_neg (by rw [mb_le (by omega) (by omega)]; omega), show lenC S 5 6 = 400 from rfl, if_neg (by rw [mb_le (by omega) (by omega)]; omega), mb_in (by omega) (by decide), mb_gd, mb_cl (by omega), hc, mb_nm, w1, mb_nm, if_pos (by rfl), mb_nm, hs7, nI_1, nI_63 _ (by omega), L1, mb_in (by omega) (by decide), mb_gd, mb_nm, mb_cl (by omega), w2, nI_7 _ hd, show lenC (pA S b 0 s.length x8) o1 k1 = 8 from (mo_len hm _).2.1, mb_in (by omega) (by decide), mb_gd, mb_cl (by omega), gA_n _ _ (fun z => L4 ⟨z.1, z.2.1⟩), mb_nm, mb_nm, nI_1]
  · have := hs.push (gA S o1 k1 d) (gA (pA S b 0 s.length x8) b 0) (fun j => by
      rw [mb_AA, ev_len]
      by_cases e : j = s.length
      · rw [if_pos ⟨rfl, rfl, e⟩, if_pos e]
      · rw [if_neg (fun z => e z.2.2), if_neg e])
    rw [ev_len] at this
    exact this
theorem mr_old (hm : mOk b o1 k1 o2 k2) {a e : Nat} {s : List Sem} {x7 x8 : Int32} (ha : a < e) (he : e ≤ 400) {d : Nat} (hd : d < 8) (hc : gA S 5 6 a = nI (32 * d + 26)) (hl : s.length ≤ 61) (hs : STK (gA S b 0) (ev (gA S o1 k1) (gA S o2 k2) s) x7 x8) : ∃ S' y7 y8, Machine_run_l55 b o1 k1 o2 k2 (nI e) S x7 x8 (nI a) = some (.inl (S', y7, y8, nI (a + 1))) ∧ agC [] [(b, 0)] [] S S' ∧ STK (gA S' b 0) (ev (gA S o1 k1) (gA S o2 k2) (stI (26, d) s)) y7 y8 := by
  obtain ⟨L1, L2, L3, L4, L5, L6⟩ := mo_len hm S
  obtain ⟨w1, w2⟩ := wd_k (d := d) (k := 26) (by omega) (by decide)
  have hs7 := hs.1
  rw [ev_len] at hs7
  refine ⟨pA S b 0 s.length x8, nI (s.length + 1), gA S o2 k2 d, ?_, agC.pA S b 0 _ _ List.mem_cons_self, ?_⟩
  · unfold Machine_run_l55 Machine_run_j506_l55
    rw [if_neg (nI_pos (by omega)), if_neg (by rw [mb_le (by omega) (by omega)]; omega), show lenC S 5 6 = 400 from rfl, if_neg (by rw [mb_le (by omega) (by omega)]; omega), mb_in (by omega) (by decide), mb_gd, mb_cl (by omega), hc, mb_nm, w1, mb_nm, if_neg (by decide), if_neg (by decide), if_neg (by decide), if_neg (by decide), if_neg (by decide), if_neg (by decide), if_neg (by decide), if_neg (by decide), if_neg (by decide), if_neg (by decide), if_neg (by decide), if_neg (by decide), if_neg (by decide), if_neg (by decide), if_neg (by decide), if_neg (by decide), if_neg (by decide), if_neg (by decide), if_neg (by decide), if_neg (by decide), if_neg (by decide), if_neg (by decide), if_neg (by decide), if_neg (by decide), if_pos (by rfl), mb_nm, hs7, nI_1, nI_63 _ (by omega), L1, mb_in (by omega) (by decide), mb_gd, mb_nm, mb_cl (by omega), w2, nI_7 _ hd, show lenC (pA S b 0 s.length x8) o2 k2 = 8 from (mo_len hm _).2.2.1, mb_in (by omega) (by decide), mb_gd, mb_cl (by omega), gA_n _ _ (fun z => L5 ⟨z.1, z.2.1⟩), mb_nm, mb_nm, nI_1]
  · have := hs.push (gA S o2 k2 d) (gA (pA S b 0 s.length x8) b 0) (fun j => by
      rw [mb_AA, ev_len]
      by_cases e : j = s.length
      · rw [if_pos ⟨rfl, rfl, e⟩, if_pos e]
      · rw [if_neg (fun z => e z.2.2), if_neg e])
    rw [ev_len] at this
    exact this
theorem mr_not (hm : mOk b o1 k1 o2 k2) {a e : Nat} {s : List Sem} {x7 x8 : Int32} (ha : a < e) (he : e ≤ 400) (hc : gA S 5 6 a = nI (32 * 0 + 25)) (h1 : 1 ≤ s.length) (hl : s.length ≤ 61) (hs : STK (gA S b 0) (ev (gA S o1 k1) (gA S o2 k2) s) x7 x8) : ∃ S' y7 y8, Machine_run_l55 b o1 k1 o2 k2 (nI e) S x7 x8 (nI a) = some (.inl (S', y7, y8, nI (a + 1))) ∧ agC [] [(b, 0)] [] S S' ∧ STK (gA S' b 0) (ev (gA S o1 k1) (gA S o2 k2) (stI (25, 0) s)) y7 y8 := by
  obtain ⟨L1, L2, L3, L4, L5, L6⟩ := mo_len hm S
  obtain ⟨w1, w2⟩ := wd_k (d := 0) (k := 25) (by omega) (by decide)
  cases s with
  | nil => exact absurd h1 (by decide)
  | cons f r =>
    obtain ⟨g1, g2⟩ := STK.un (r := ev (gA S o1 k1) (gA S o2 k2) r) hs (1 - f (gA S o1 k1) (gA S o2 k2))
    refine ⟨S, x7, 1 - f (gA S o1 k1) (gA S o2 k2), ?_, agC.rf S, g1⟩
    unfold Machine_run_l55 Machine_run_j500_l55 Machine_run_j506_l55
    rw [if_neg (nI_pos (by omega)), if_neg (by rw [mb_le (by omega) (by omega)]; omega), show lenC S 5 6 = 400 from rfl, if_neg (by rw [mb_le (by omega) (by omega)]; omega), mb_in (by omega) (by decide), mb_gd, mb_cl (by omega), hc, mb_nm, w1, mb_nm, if_neg (by decide), if_neg (by decide), if_neg (by decide), if_neg (by decide), if_neg (by decide), if_neg (by decide), if_neg (by decide), if_neg (by decide), if_neg (by decide), if_neg (by decide), if_neg (by decide), if_neg (by decide), if_neg (by decide), if_neg (by decide), if_neg (by decide), if_neg (by decide), if_neg (by decide), if_neg (by decide), if_neg (by decide), if_neg (by decide), if_neg (by decide), if_neg (by decide), if_neg (by decide), if_pos (by rfl), mb_nm, mb_nm, nI_1, g2]
theorem mr_b5 (hm : mOk b o1 k1 o2 k2) {a e : Nat} {s : List Sem} {x7 x8 : Int32} (ha : a < e) (he : e ≤ 400) (hc : gA S 5 6 a = nI (32 * 0 + 5)) (h1 : 2 ≤ s.length) (hl : s.length ≤ 61) (hs : STK (gA S b 0) (ev (gA S o1 k1) (gA S o2 k2) s) x7 x8) : ∃ S' y7 y8, Machine_run_l55 b o1 k1 o2 k2 (nI e) S x7 x8 (nI a) = some (.inl (S', y7, y8, nI (a + 1))) ∧ agC [] [(b, 0)] [] S S' ∧ STK (gA S' b 0) (ev (gA S o1 k1) (gA S o2 k2) (stI (5, 0) s)) y7 y8 := by
  obtain ⟨L1, L2, L3, L4, L5, L6⟩ := mo_len hm S
  obtain ⟨w1, w2⟩ := wd_k (d := 0) (k := 5) (by omega) (by decide)
  match s, h1, hl, hs with
  | [], h1, _, _ => exact absurd h1 (by decide)
  | [_], h1, _, _ => exact absurd h1 (show ¬ 2 ≤ 1 by decide)
  | g :: f :: r, _, hl, hs =>
    have hl : r.length + 1 + 1 ≤ 61 := hl
    obtain ⟨g1, g2, g3, g4⟩ := STK.bin (r := ev (gA S o1 k1) (gA S o2 k2) r) hs (apO 5 (f (gA S o1 k1) (gA S o2 k2)) (g (gA S o1 k1) (gA S o2 k2)))
    rw [ev_len] at g1 g2 g3
    refine ⟨S, nI (r.length + 1), apO 5 (f (gA S o1 k1) (gA S o2 k2)) (g (gA S o1 k1) (gA S o2 k2)), ?_, agC.rf S, g1⟩
    unfold Machine_run_l55 Machine_run_j506_l55
    rw [if_neg (nI_pos (by omega)), if_neg (by rw [mb_le (by omega) (by omega)]; omega), show lenC S 5 6 = 400 from rfl, if_neg (by rw [mb_le (by omega) (by omega)]; omega), mb_in (by omega) (by decide), mb_gd, mb_cl (by omega), hc, mb_nm, w1, mb_nm, if_neg (by decide), if_neg (by decide), if_neg (by decide), if_pos (by rfl), g2, mb_nm, nI_63 _ (by omega), L1, mb_in (by omega) (by decide), mb_gd, mb_cl (by omega), g3, g4, mb_nm, mb_nm, nI_1]
    rfl
theorem mr_b6 (hm : mOk b o1 k1 o2 k2) {a e : Nat} {s : List Sem} {x7 x8 : Int32} (ha : a < e) (he : e ≤ 400) (hc : gA S 5 6 a = nI (32 * 0 + 6)) (h1 : 2 ≤ s.length) (hl : s.length ≤ 61) (hs : STK (gA S b 0) (ev (gA S o1 k1) (gA S o2 k2) s) x7 x8) : ∃ S' y7 y8, Machine_run_l55 b o1 k1 o2 k2 (nI e) S x7 x8 (nI a) = some (.inl (S', y7, y8, nI (a + 1))) ∧ agC [] [(b, 0)] [] S S' ∧ STK (gA S' b 0) (ev (gA S o1 k1) (gA S o2 k2) (stI (6, 0) s)) y7 y8 := by
  obtain ⟨L1, L2, L3, L4, L5, L6⟩ := mo_len hm S
  obtain ⟨w1, w2⟩ := wd_k (d := 0) (k := 6) (by omega) (by decide)
  match s, h1, hl, hs with
  | [], h1, _, _ => exact absurd h1 (by decide)
  | [_], h1, _, _ => exact absurd h1 (show ¬ 2 ≤ 1 by decide)
  | g :: f :: r, _, hl, hs =>
    have hl : r.length + 1 + 1 ≤ 61 := hl
    obtain ⟨g1, g2, g3, g4⟩ := STK.bin (r := ev (gA S o1 k1) (gA S o2 k2) r) hs (apO 6 (f (gA S o1 k1) (gA S o2 k2)) (g (gA S o1 k1) (gA S o2 k2)))
    rw [ev_len] at g1 g2 g3
    refine ⟨S, nI (r.length + 1), apO 6 (f (gA S o1 k1) (gA S o2 k2)) (g (gA S o1 k1) (gA S o2 k2)), ?_, agC.rf S, g1⟩
    unfold Machine_run_l55 Machine_run_j506_l55
    rw [if_neg (nI_pos (by omega)), if_neg (by rw [mb_le (by omega) (by omega)]; omega), show lenC S 5 6 = 400 from rfl, if_neg (by rw [mb_le (by omega) (by omega)]; omega), mb_in (by omega) (by decide), mb_gd, mb_cl (by omega), hc, mb_nm, w1, mb_nm, if_neg (by decide), if_neg (by decide), if_neg (by decide), if_neg (by decide), if_pos (by rfl), g2, mb_nm, nI_63 _ (by omega), L1, mb_in (by omega) (by decide), mb_gd, mb_cl (by omega), g3, g4, mb_nm, mb_nm, nI_1]
    rfl
theorem mr_b7 (hm : mOk b o1 k1 o2 k2) {a e : Nat} {s : List Sem} {x7 x8 : Int32} (ha : a < e) (he : e ≤ 400) (hc : gA S 5 6 a = nI (32 * 0 + 7)) (h1 : 2 ≤ s.length) (hl : s.length ≤ 61) (hs : STK (gA S b 0) (ev (gA S o1 k1) (gA S o2 k2) s) x7 x8) : ∃ S' y7 y8, Machine_run_l55 b o1 k1 o2 k2 (nI e) S x7 x8 (nI a) = some (.inl (S', y7, y8, nI (a + 1))) ∧ agC [] [(b, 0)] [] S S' ∧ STK (gA S' b 0) (ev (gA S o1 k1) (gA S o2 k2) (stI (7, 0) s)) y7 y8 := by
  obtain ⟨L1, L2, L3, L4, L5, L6⟩ := mo_len hm S
  obtain ⟨w1, w2⟩ := wd_k (d := 0) (k := 7) (by omega) (by decide)
  match s, h1, hl, hs with
  | [], h1, _, _ => exact absurd h1 (by decide)
  | [_], h1, _, _ => exact absurd h1 (show ¬ 2 ≤ 1 by decide)
  | g :: f :: r, _, hl, hs =>
    have hl : r.length + 1 + 1 ≤ 61 := hl
    obtain ⟨g1, g2, g3, g4⟩ := STK.bin (r := ev (gA S o1 k1) (gA S o2 k2) r) hs (apO 7 (f (gA S o1 k1) (gA S o2 k2)) (g (gA S o1 k1) (gA S o2 k2)))
    rw [ev_len] at g1 g2 g3
    refine ⟨S, nI (r.length + 1), apO 7 (f (gA S o1 k1) (gA S o2 k2)) (g (gA S o1 k1) (gA S o2 k2)), ?_, agC.rf S, g1⟩
    unfold Machine_run_l55 Machine_run_j506_l55
    rw [if_neg (nI_pos (by omega)), if_neg (by rw [mb_le (by omega) (by omega)]; omega), show lenC S 5 6 = 400 from rfl, if_neg (by rw [mb_le (by omega) (by omega)]; omega), mb_in (by omega) (by decide), mb_gd, mb_cl (by omega), hc, mb_nm, w1, mb_nm, if_neg (by decide), if_neg (by decide), if_neg (by decide), if_neg (by decide), if_neg (by decide), if_pos (by rfl), g2, mb_nm, nI_63 _ (by omega), L1, mb_in (by omega) (by decide), mb_gd, mb_cl (by omega), g3, g4, mb_nm, mb_nm, nI_1]
    rfl
theorem mr_b8 (hm : mOk b o1 k1 o2 k2) {a e : Nat} {s : List Sem} {x7 x8 : Int32} (ha : a < e) (he : e ≤ 400) (hc : gA S 5 6 a = nI (32 * 0 + 8)) (h1 : 2 ≤ s.length) (hl : s.length ≤ 61) (hs : STK (gA S b 0) (ev (gA S o1 k1) (gA S o2 k2) s) x7 x8) : ∃ S' y7 y8, Machine_run_l55 b o1 k1 o2 k2 (nI e) S x7 x8 (nI a) = some (.inl (S', y7, y8, nI (a + 1))) ∧ agC [] [(b, 0)] [] S S' ∧ STK (gA S' b 0) (ev (gA S o1 k1) (gA S o2 k2) (stI (8, 0) s)) y7 y8 := by
  obtain ⟨L1, L2, L3, L4, L5, L6⟩ := mo_len hm S
  obtain ⟨w1, w2⟩ := wd_k (d := 0) (k := 8) (by omega) (by decide)
  match s, h1, hl, hs with
  | [], h1, _, _ => exact absurd h1 (by decide)
  | [_], h1, _, _ => exact absurd h1 (show ¬ 2 ≤ 1 by decide)
  | g :: f :: r, _, hl, hs =>
    have hl : r.length + 1 + 1 ≤ 61 := hl
    obtain ⟨g1, g2, g3, g4⟩ := STK.bin (r := ev (gA S o1 k1) (gA S o2 k2) r) hs (apO 8 (f (gA S o1 k1) (gA S o2 k2)) (g (gA S o1 k1) (gA S o2 k2)))
    rw [ev_len] at g1 g2 g3
    refine ⟨S, nI (r.length + 1), apO 8 (f (gA S o1 k1) (gA S o2 k2)) (g (gA S o1 k1) (gA S o2 k2)), ?_, agC.rf S, g1⟩
    unfold Machine_run_l55 Machine_run_j369_l55 Machine_run_j506_l55
    rw [if_neg (nI_pos (by omega)), if_neg (by rw [mb_le (by omega) (by omega)]; omega), show lenC S 5 6 = 400 from rfl, if_neg (by rw [mb_le (by omega) (by omega)]; omega), mb_in (by omega) (by decide), mb_gd, mb_cl (by omega), hc, mb_nm, w1, mb_nm, if_neg (by decide), if_neg (by decide), if_neg (by decide), if_neg (by decide), if_neg (by decide), if_neg (by decide), if_pos (by rfl), g2, mb_nm, nI_63 _ (by omega), L1, mb_in (by omega) (by decide), mb_gd, mb_cl (by omega), g3, g4]
    simp only [mb_nm]
    rw [nI_1]
    show (if f (gA S o1 k1) (gA S o2 k2) = g (gA S o1 k1) (gA S o2 k2) then some (Sum.inl (S, nI (r.length + 1), (1 : Int32), nI (a + 1))) else some (Sum.inl (S, nI (r.length + 1), (0 : Int32), nI (a + 1)))) = some (Sum.inl (S, nI (r.length + 1), b2i (decide (f (gA S o1 k1) (gA S o2 k2) = g (gA S o1 k1) (gA S o2 k2))), nI (a + 1)))
    by_cases z : f (gA S o1 k1) (gA S o2 k2) = g (gA S o1 k1) (gA S o2 k2)
    · rw [if_pos z, decide_eq_true z]
      rfl
    · rw [if_neg z, decide_eq_false z]
      rfl
theorem mr_b9 (hm : mOk b o1 k1 o2 k2) {a e : Nat} {s : List Sem} {x7 x8 : Int32} (ha : a < e) (he : e ≤ 400) (hc : gA S 5 6 a = nI (32 * 0 + 9)) (h1 : 2 ≤ s.length) (hl : s.length ≤ 61) (hs : STK (gA S b 0) (ev (gA S o1 k1) (gA S o2 k2) s) x7 x8) : ∃ S' y7 y8, Machine_run_l55 b o1 k1 o2 k2 (nI e) S x7 x8 (nI a) = some (.inl (S', y7, y8, nI (a + 1))) ∧ agC [] [(b, 0)] [] S S' ∧ STK (gA S' b 0) (ev (gA S o1 k1) (gA S o2 k2) (stI (9, 0) s)) y7 y8 := by
  obtain ⟨L1, L2, L3, L4, L5, L6⟩ := mo_len hm S
  obtain ⟨w1, w2⟩ := wd_k (d := 0) (k := 9) (by omega) (by decide)
  match s, h1, hl, hs with
  | [], h1, _, _ => exact absurd h1 (by decide)
  | [_], h1, _, _ => exact absurd h1 (show ¬ 2 ≤ 1 by decide)
  | g :: f :: r, _, hl, hs =>
    have hl : r.length + 1 + 1 ≤ 61 := hl
    obtain ⟨g1, g2, g3, g4⟩ := STK.bin (r := ev (gA S o1 k1) (gA S o2 k2) r) hs (apO 9 (f (gA S o1 k1) (gA S o2 k2)) (g (gA S o1 k1) (gA S o2 k2)))
    rw [ev_len] at g1 g2 g3
    refine ⟨S, nI (r.length + 1), apO 9 (f (gA S o1 k1) (gA S o2 k2)) (g (gA S o1 k1) (gA S o2 k2)), ?_, agC.rf S, g1⟩
    unfold Machine_run_l55 Machine_run_j397_l55 Machine_run_j506_l55
    rw [if_neg (nI_pos (by omega)), if_neg (by rw [mb_le (by omega) (by omega)]; omega), show lenC S 5 6 = 400 from rfl, if_neg (by rw [mb_le (by omega) (by omega)]; omega), mb_in (by omega) (by decide), mb_gd, mb_cl (by omega), hc, mb_nm, w1, mb_nm, if_neg (by decide), if_neg (by decide), if_neg (by decide), if_neg (by decide), if_neg (by decide), if_neg (by decide), if_neg (by decide), if_pos (by rfl), g2, mb_nm, nI_63 _ (by omega), L1, mb_in (by omega) (by decide), mb_gd, mb_cl (by omega), g3, g4]
    simp only [mb_nm]
    rw [nI_1]
    show (if f (gA S o1 k1) (gA S o2 k2) = g (gA S o1 k1) (gA S o2 k2) then some (Sum.inl (S, nI (r.length + 1), (0 : Int32), nI (a + 1))) else some (Sum.inl (S, nI (r.length + 1), (1 : Int32), nI (a + 1)))) = some (Sum.inl (S, nI (r.length + 1), b2i (!decide (f (gA S o1 k1) (gA S o2 k2) = g (gA S o1 k1) (gA S o2 k2))), nI (a + 1)))
    by_cases z : f (gA S o1 k1) (gA S o2 k2) = g (gA S o1 k1) (gA S o2 k2)
    · rw [if_pos z, decide_eq_true z]
      rfl
    · rw [if_neg z, decide_eq_false z]
      rfl
theorem mr_b10 (hm : mOk b o1 k1 o2 k2) {a e : Nat} {s : List Sem} {x7 x8 : Int32} (ha : a < e) (he : e ≤ 400) (hc : gA S 5 6 a = nI (32 * 0 + 10)) (h1 : 2 ≤ s.length) (hl : s.length ≤ 61) (hs : STK (gA S b 0) (ev (gA S o1 k1) (gA S o2 k2) s) x7 x8) : ∃ S' y7 y8, Machine_run_l55 b o1 k1 o2 k2 (nI e) S x7 x8 (nI a) = some (.inl (S', y7, y8, nI (a + 1))) ∧ agC [] [(b, 0)] [] S S' ∧ STK (gA S' b 0) (ev (gA S o1 k1) (gA S o2 k2) (stI (10, 0) s)) y7 y8 := by
  obtain ⟨L1, L2, L3, L4, L5, L6⟩ := mo_len hm S
  obtain ⟨w1, w2⟩ := wd_k (d := 0) (k := 10) (by omega) (by decide)
  match s, h1, hl, hs with
  | [], h1, _, _ => exact absurd h1 (by decide)
  | [_], h1, _, _ => exact absurd h1 (show ¬ 2 ≤ 1 by decide)
  | g :: f :: r, _, hl, hs =>
    have hl : r.length + 1 + 1 ≤ 61 := hl
    obtain ⟨g1, g2, g3, g4⟩ := STK.bin (r := ev (gA S o1 k1) (gA S o2 k2) r) hs (apO 10 (f (gA S o1 k1) (gA S o2 k2)) (g (gA S o1 k1) (gA S o2 k2)))
    rw [ev_len] at g1 g2 g3
    refine ⟨S, nI (r.length + 1), apO 10 (f (gA S o1 k1) (gA S o2 k2)) (g (gA S o1 k1) (gA S o2 k2)), ?_, agC.rf S, g1⟩
    unfold Machine_run_l55 Machine_run_j425_l55 Machine_run_j506_l55
    rw [if_neg (nI_pos (by omega)), if_neg (by rw [mb_le (by omega) (by omega)]; omega), show lenC S 5 6 = 400 from rfl, if_neg (by rw [mb_le (by omega) (by omega)]; omega), mb_in (by omega) (by decide), mb_gd, mb_cl (by omega), hc, mb_nm, w1, mb_nm, if_neg (by decide), if_neg (by decide), if_neg (by decide), if_neg (by decide), if_neg (by decide), if_neg (by decide), if_neg (by decide), if_neg (by decide), if_pos (by rfl), g2, mb_nm, nI_63 _ (by omega), L1, mb_in (by omega) (by decide), mb_gd, mb_cl (by omega), g3, g4]
    simp only [mb_nm]
    rw [nI_1]
    show (if g (gA S o1 k1) (gA S o2 k2) ≤ f (gA S o1 k1) (gA S o2 k2) then some (Sum.inl (S, nI (r.length + 1), (0 : Int32), nI (a + 1))) else some (Sum.inl (S, nI (r.length + 1), (1 : Int32), nI (a + 1)))) = some (Sum.inl (S, nI (r.length + 1), b2i (!decide (g (gA S o1 k1) (gA S o2 k2) ≤ f (gA S o1 k1) (gA S o2 k2))), nI (a + 1)))
    by_cases z : g (gA S o1 k1) (gA S o2 k2) ≤ f (gA S o1 k1) (gA S o2 k2)
    · rw [if_pos z, decide_eq_true z]
      rfl
    · rw [if_neg z, decide_eq_false z]
      rfl
theorem mr_b11 (hm : mOk b o1 k1 o2 k2) {a e : Nat} {s : List Sem} {x7 x8 : Int32} (ha : a < e) (he : e ≤ 400) (hc : gA S 5 6 a = nI (32 * 0 + 11)) (h1 : 2 ≤ s.length) (hl : s.length ≤ 61) (hs : STK (gA S b 0) (ev (gA S o1 k1) (gA S o2 k2) s) x7 x8) : ∃ S' y7 y8, Machine_run_l55 b o1 k1 o2 k2 (nI e) S x7 x8 (nI a) = some (.inl (S', y7, y8, nI (a + 1))) ∧ agC [] [(b, 0)] [] S S' ∧ STK (gA S' b 0) (ev (gA S o1 k1) (gA S o2 k2) (stI (11, 0) s)) y7 y8 := by
  obtain ⟨L1, L2, L3, L4, L5, L6⟩ := mo_len hm S
  obtain ⟨w1, w2⟩ := wd_k (d := 0) (k := 11) (by omega) (by decide)
  match s, h1, hl, hs with
  | [], h1, _, _ => exact absurd h1 (by decide)
  | [_], h1, _, _ => exact absurd h1 (show ¬ 2 ≤ 1 by decide)
  | g :: f :: r, _, hl, hs =>
    have hl : r.length + 1 + 1 ≤ 61 := hl
    obtain ⟨g1, g2, g3, g4⟩ := STK.bin (r := ev (gA S o1 k1) (gA S o2 k2) r) hs (apO 11 (f (gA S o1 k1) (gA S o2 k2)) (g (gA S o1 k1) (gA S o2 k2)))
    rw [ev_len] at g1 g2 g3
    refine ⟨S, nI (r.length + 1), apO 11 (f (gA S o1 k1) (gA S o2 k2)) (g (gA S o1 k1) (gA S o2 k2)), ?_, agC.rf S, g1⟩
    unfold Machine_run_l55 Machine_run_j453_l55 Machine_run_j506_l55
    rw [if_neg (nI_pos (by omega)), if_neg (by rw [mb_le (by omega) (by omega)]; omega), show lenC S 5 6 = 400 from rfl, if_neg (by rw [mb_le (by omega) (by omega)]; omega), mb_in (by omega) (by decide), mb_gd, mb_cl (by omega), hc, mb_nm, w1, mb_nm, if_neg (by decide), if_neg (by decide), if_neg (by decide), if_neg (by decide), if_neg (by decide), if_neg (by decide), if_neg (by decide), if_neg (by decide), if_neg (by decide), if_pos (by rfl), g2, mb_nm, nI_63 _ (by omega), L1, mb_in (by omega) (by decide), mb_gd, mb_cl (by omega), g3, g4]
    simp only [mb_nm]
    rw [nI_1]
    show (if g (gA S o1 k1) (gA S o2 k2) < f (gA S o1 k1) (gA S o2 k2) then some (Sum.inl (S, nI (r.length + 1), (0 : Int32), nI (a + 1))) else some (Sum.inl (S, nI (r.length + 1), (1 : Int32), nI (a + 1)))) = some (Sum.inl (S, nI (r.length + 1), b2i (!decide (g (gA S o1 k1) (gA S o2 k2) < f (gA S o1 k1) (gA S o2 k2))), nI (a + 1)))
    by_cases z : g (gA S o1 k1) (gA S o2 k2) < f (gA S o1 k1) (gA S o2 k2)
    · rw [if_pos z, decide_eq_true z]
      rfl
    · rw [if_neg z, decide_eq_false z]
      rfl
theorem mr_b23 (hm : mOk b o1 k1 o2 k2) {a e : Nat} {s : List Sem} {x7 x8 : Int32} (ha : a < e) (he : e ≤ 400) (hc : gA S 5 6 a = nI (32 * 0 + 23)) (h1 : 2 ≤ s.length) (hl : s.length ≤ 61) (hs : STK (gA S b 0) (ev (gA S o1 k1) (gA S o2 k2) s) x7 x8) : ∃ S' y7 y8, Machine_run_l55 b o1 k1 o2 k2 (nI e) S x7 x8 (nI a) = some (.inl (S', y7, y8, nI (a + 1))) ∧ agC [] [(b, 0)] [] S S' ∧ STK (gA S' b 0) (ev (gA S o1 k1) (gA S o2 k2) (stI (23, 0) s)) y7 y8 := by
  obtain ⟨L1, L2, L3, L4, L5, L6⟩ := mo_len hm S
  obtain ⟨w1, w2⟩ := wd_k (d := 0) (k := 23) (by omega) (by decide)
  match s, h1, hl, hs with
  | [], h1, _, _ => exact absurd h1 (by decide)
  | [_], h1, _, _ => exact absurd h1 (show ¬ 2 ≤ 1 by decide)
  | g :: f :: r, _, hl, hs =>
    have hl : r.length + 1 + 1 ≤ 61 := hl
    obtain ⟨g1, g2, g3, g4⟩ := STK.bin (r := ev (gA S o1 k1) (gA S o2 k2) r) hs (apO 23 (f (gA S o1 k1) (gA S o2 k2)) (g (gA S o1 k1) (gA S o2 k2)))
    rw [ev_len] at g1 g2 g3
    refine ⟨S, nI (r.length + 1), apO 23 (f (gA S o1 k1) (gA S o2 k2)) (g (gA S o1 k1) (gA S o2 k2)), ?_, agC.rf S, g1⟩
    unfold Machine_run_l55 Machine_run_j506_l55
    rw [if_neg (nI_pos (by omega)), if_neg (by rw [mb_le (by omega) (by omega)]; omega), show lenC S 5 6 = 400 from rfl, if_neg (by rw [mb_le (by omega) (by omega)]; omega), mb_in (by omega) (by decide), mb_gd, mb_cl (by omega), hc, mb_nm, w1, mb_nm, if_neg (by decide), if_neg (by decide), if_neg (by decide), if_neg (by decide), if_neg (by decide), if_neg (by decide), if_neg (by decide), if_neg (by decide), if_neg (by decide), if_neg (by decide), if_neg (by decide), if_neg (by decide), if_neg (by decide), if_neg (by decide), if_neg (by decide), if_neg (by decide), if_neg (by decide), if_neg (by decide), if_neg (by decide), if_neg (by decide), if_neg (by decide), if_pos (by rfl), g2, mb_nm, nI_63 _ (by omega), L1, mb_in (by omega) (by decide), mb_gd, mb_cl (by omega), g3, g4, mb_nm, mb_nm, nI_1]
    rfl
theorem mr_b24 (hm : mOk b o1 k1 o2 k2) {a e : Nat} {s : List Sem} {x7 x8 : Int32} (ha : a < e) (he : e ≤ 400) (hc : gA S 5 6 a = nI (32 * 0 + 24)) (h1 : 2 ≤ s.length) (hl : s.length ≤ 61) (hs : STK (gA S b 0) (ev (gA S o1 k1) (gA S o2 k2) s) x7 x8) : ∃ S' y7 y8, Machine_run_l55 b o1 k1 o2 k2 (nI e) S x7 x8 (nI a) = some (.inl (S', y7, y8, nI (a + 1))) ∧ agC [] [(b, 0)] [] S S' ∧ STK (gA S' b 0) (ev (gA S o1 k1) (gA S o2 k2) (stI (24, 0) s)) y7 y8 := by
  obtain ⟨L1, L2, L3, L4, L5, L6⟩ := mo_len hm S
  obtain ⟨w1, w2⟩ := wd_k (d := 0) (k := 24) (by omega) (by decide)
  match s, h1, hl, hs with
  | [], h1, _, _ => exact absurd h1 (by decide)
  | [_], h1, _, _ => exact absurd h1 (show ¬ 2 ≤ 1 by decide)
  | g :: f :: r, _, hl, hs =>
    have hl : r.length + 1 + 1 ≤ 61 := hl
    obtain ⟨g1, g2, g3, g4⟩ := STK.bin (r := ev (gA S o1 k1) (gA S o2 k2) r) hs (apO 24 (f (gA S o1 k1) (gA S o2 k2)) (g (gA S o1 k1) (gA S o2 k2)))
    rw [ev_len] at g1 g2 g3
    refine ⟨S, nI (r.length + 1), apO 24 (f (gA S o1 k1) (gA S o2 k2)) (g (gA S o1 k1) (gA S o2 k2)), ?_, agC.rf S, g1⟩
    unfold Machine_run_l55 Machine_run_j506_l55
    rw [if_neg (nI_pos (by omega)), if_neg (by rw [mb_le (by omega) (by omega)]; omega), show lenC S 5 6 = 400 from rfl, if_neg (by rw [mb_le (by omega) (by omega)]; omega), mb_in (by omega) (by decide), mb_gd, mb_cl (by omega), hc, mb_nm, w1, mb_nm, if_neg (by decide), if_neg (by decide), if_neg (by decide), if_neg (by decide), if_neg (by decide), if_neg (by decide), if_neg (by decide), if_neg (by decide), if_neg (by decide), if_neg (by decide), if_neg (by decide), if_neg (by decide), if_neg (by decide), if_neg (by decide), if_neg (by decide), if_neg (by decide), if_neg (by decide), if_neg (by decide), if_neg (by decide), if_neg (by decide), if_neg (by decide), if_neg (by decide), if_pos (by rfl), g2, mb_nm, nI_63 _ (by omega), L1, mb_in (by omega) (by decide), mb_gd, mb_cl (by omega), g3, g4, mb_nm, mb_nm, nI_1]
    rfl
theorem isB2_s {x : Nat} (h : isB2 x = true) : x = 5 ∨ x = 6 ∨ x = 7 ∨ x = 8 ∨ x = 9 ∨ x = 10 ∨ x = 11 ∨ x = 23 ∨ x = 24 := by
  unfold isB2 at h
  simp only [Bool.or_eq_true, Nat.beq_eq] at h
  omega
theorem mr_step (hm : mOk b o1 k1 o2 k2) {a e : Nat} {c : Nat × Nat} {s : List Sem} {x7 x8 : Int32} (ha : a < e) (he : e ≤ 400) (hc : gA S 5 6 a = wd c) (hk : ok1 6 c s.length) (hl : s.length ≤ 61) (hs : STK (gA S b 0) (ev (gA S o1 k1) (gA S o2 k2) s) x7 x8) : ∃ S' y7 y8, Machine_run_l55 b o1 k1 o2 k2 (nI e) S x7 x8 (nI a) = some (.inl (S', y7, y8, nI (a + 1))) ∧ agC [] [(b, 0)] [] S S' ∧ STK (gA S' b 0) (ev (gA S o1 k1) (gA S o2 k2) (stI c s)) y7 y8 := by
  obtain ⟨k, d⟩ := c
  unfold ok1 wd at *
  dsimp only at hk hc
  rcases hk with ⟨rfl, h2, h3⟩ | ⟨h1, h2, h3⟩ | ⟨rfl, rfl, h3⟩ | ⟨h1, rfl, h3⟩
  · exact mr_int hm ha he h2 hc hl hs
  · rcases h1 with rfl | rfl
    · exact mr_name hm ha he (by omega) hc hl hs
    · exact mr_old hm ha he (by omega) hc hl hs
  · exact mr_not hm ha he hc h3 hl hs
  · rcases isB2_s h1 with rfl | rfl | rfl | rfl | rfl | rfl | rfl | rfl | rfl
    · exact mr_b5 hm ha he hc h3 hl hs
    · exact mr_b6 hm ha he hc h3 hl hs
    · exact mr_b7 hm ha he hc h3 hl hs
    · exact mr_b8 hm ha he hc h3 hl hs
    · exact mr_b9 hm ha he hc h3 hl hs
    · exact mr_b10 hm ha he hc h3 hl hs
    · exact mr_b11 hm ha he hc h3 hl hs
    · exact mr_b23 hm ha he hc h3 hl hs
    · exact mr_b24 hm ha he hc h3 hl hs
theorem mr_all (hm : mOk b o1 k1 o2 k2) {e : Nat} (he : e ≤ 400) : ∀ (is : List (Nat × Nat)) {S : St} {a : Nat} {s : List Sem} {x7 x8 : Int32}, a + is.length = e → (∀ i c, is[i]? = some c → gA S 5 6 (a + i) = wd c) → okI 6 is s → STK (gA S b 0) (ev (gA S o1 k1) (gA S o2 k2) s) x7 x8 → ∃ S', wh (un4 (Machine_run_l55 b o1 k1 o2 k2 (nI e))) (S, x7, x8, nI a) = some (S', (ev (gA S o1 k1) (gA S o2 k2) (rnS is s)).headD 0) ∧ agC [] [(b, 0)] [] S S'
  | [], S, a, s, x7, x8, hl, _, _, hs => by
    have e1 : a = e := by
      have hl : a + 0 = e := hl
      omega
    subst e1
    refine ⟨S, ?_, agC.rf S⟩
    refine wh_inr ?_
    show Machine_run_l55 b o1 k1 o2 k2 (nI a) S x7 x8 (nI a) = _
    unfold Machine_run_l55
    rw [if_neg (nI_pos (by omega)), if_pos (by rw [mb_le (by omega) (by omega)]; omega), hs.2.1]
    rfl
  | c :: is, S, a, s, x7, x8, hl, hc, hk, hs => by
    have hl : a + (is.length + 1) = e := hl
    obtain ⟨L1, L2, L3, L4, L5, L6⟩ := mo_len hm S
    obtain ⟨S1, y7, y8, h1, a1, s1⟩ := mr_step hm (show a < e by omega) he (hc 0 c rfl) hk.1 hk.2.1 hs
    have n1 : gA S1 o1 k1 = gA S o1 k1 := a1.2.1 o1 k1 (fun z => L4 (by rw [List.mem_singleton] at z; cases z; exact ⟨rfl, rfl⟩))
    have n2 : gA S1 o2 k2 = gA S o2 k2 := a1.2.1 o2 k2 (fun z => L5 (by rw [List.mem_singleton] at z; cases z; exact ⟨rfl, rfl⟩))
    have n5 : gA S1 5 6 = gA S 5 6 := a1.2.1 5 6 (fun z => L6 (by rw [List.mem_singleton] at z; cases z))
    have s1' : STK (gA S1 b 0) (ev (gA S1 o1 k1) (gA S1 o2 k2) (stI c s)) y7 y8 := by rw [n1, n2]; exact s1
    obtain ⟨S2, h2, a2⟩ := mr_all hm he is (S := S1) (a := a + 1) (s := stI c s) (by omega) (fun i d hi => by
      rw [n5]
      have := hc (i + 1) d hi
      rw [show a + 1 + i = a + (i + 1) by omega]
      exact this) hk.2.2 s1'
    rw [n1, n2] at h2
    refine ⟨S2, ?_, a1.tr a2⟩
    rw [wh_inl (t := (S1, y7, y8, nI (a + 1))) h1, h2]
    rfl
/-- a slot whose code comes to one value -/
theorem mr_run (hm : mOk b o1 k1 o2 k2) {sl bg : Nat} {is : List (Nat × Nat)} {f : Sem} (hsl : sl < 48) (h7 : gA S 5 7 sl = nI bg) (h8 : gA S 5 8 sl = nI (bg + is.length)) (he : bg + is.length ≤ 400) (hc : ∀ i c, is[i]? = some c → gA S 5 6 (bg + i) = wd c) (hk : okI 6 is []) (hf : rnS is [] = [f]) : ∃ S', f_Machine_run b o1 k1 o2 k2 S (nI sl) = some (f (gA S o1 k1) (gA S o2 k2), S') ∧ agC [] [(b, 0)] [] S S' := by
  obtain ⟨L1, L2, L3, L4, L5, L6⟩ := mo_len hm S
  obtain ⟨S', h1, a1⟩ := mr_all hm he is (S := S) (a := bg) (s := []) (x7 := 0) (x8 := 0) rfl hc hk ⟨rfl, rfl, fun j _ hj => absurd hj (Nat.not_lt_zero j)⟩
  refine ⟨S', ?_, a1⟩
  unfold f_Machine_run Machine_run_j512
  rw [if_neg (nI_pos (by omega)), if_neg (by rw [show (48 : Int32) = nI 48 from rfl, mb_le (by omega) (by omega)]; omega), L2, L3, if_pos (by rfl), if_pos (by rfl), show lenC S 5 8 = 48 from rfl, mb_in hsl (by decide), mb_gd, mb_nm, show lenC S 5 7 = 48 from rfl, mb_in hsl (by decide), mb_gd, mb_nm, mb_cl (by omega), h7, h8, h1, mb_bd2, hf]
  rfl
