/-! the reference runs its codes -/
def rk (x : Nat) : Nat := if x = 3 then 0 else if x = 2 then 1 else if x = 26 then 2 else if x = 5 then 3 else if x = 6 then 4 else 5
def isA (x : Nat) : Prop := x = 3 ∨ x = 2 ∨ x = 26 ∨ x = 5 ∨ x = 6 ∨ x = 7
def STM (A : Nat → Int32) (s : List Int32) : Prop := ∀ i, i < s.length → A (s.length - 1 - i) = s.getD i 0
variable {M M' : St}
theorem STM.push {A : Nat → Int32} {s : List Int32} (h : STM A s) (x : Int32) (A' : Nat → Int32) (hA : ∀ j, A' j = if j = s.length then x else A j) : STM A' (x :: s) := by
  intro i hi
  have hi : i < s.length + 1 := hi
  show A' (s.length + 1 - 1 - i) = (x :: s).getD i 0
  rw [hA]
  cases i with
  | zero => rw [if_pos (by omega)]; rfl
  | succ i =>
    rw [if_neg (by omega), List.getD_cons_succ, show s.length + 1 - 1 - (i + 1) = s.length - 1 - i by omega]
    exact h i (by omega)
theorem STM.bin {A : Nat → Int32} {r : List Int32} {g f : Int32} (h : STM A (g :: f :: r)) (y : Int32) (A' : Nat → Int32) (hA : ∀ j, A' j = if j = r.length then y else A j) : A (r.length + 1) = g ∧ A r.length = f ∧ STM A' (y :: r) := by
  have h0 := h 0 (by show 0 < r.length + 1 + 1; omega)
  have h1 := h 1 (by show 1 < r.length + 1 + 1; omega)
  refine ⟨?_, ?_, fun i hi => ?_⟩
  · have h0 : A (r.length + 1 + 1 - 1 - 0) = g := h0
    rw [show r.length + 1 + 1 - 1 - 0 = r.length + 1 by omega] at h0
    exact h0
  · have h1 : A (r.length + 1 + 1 - 1 - 1) = f := h1
    rw [show r.length + 1 + 1 - 1 - 1 = r.length by omega] at h1
    exact h1
  · have hi : i < r.length + 1 := hi
    show A' (r.length + 1 - 1 - i) = (y :: r).getD i 0
    rw [hA]
    cases i with
    | zero => rw [if_pos (by omega)]; rfl
    | succ i =>
      rw [if_neg (by omega), List.getD_cons_succ]
      have := h (i + 1 + 1) (by show i + 1 + 1 < r.length + 1 + 1; omega)
      have this : A (r.length + 1 + 1 - 1 - (i + 1 + 1)) = r.getD i 0 := this
      rw [show r.length + 1 + 1 - 1 - (i + 1 + 1) = r.length + 1 - 1 - (i + 1) by omega] at this
      exact this
theorem l500 : (500 : Int32) = nI 500 := rfl
theorem te_push {a e : Nat} {s : List Sem} (ha : a < e) (he : e ≤ 1000) (x : Int32) (f : Sem) (hf : f (gA M 0 49) (gA M 0 50) = x) (hl : s.length ≤ 61) (hs : STM (gA M 0 51) (ev (gA M 0 49) (gA M 0 50) s)) : ∃ M', Model_termOf_j79_l5 M (nI e) (nI s.length) (nI a) (nI s.length) x = some (.inl (M', nI (s.length + 1), nI (a + 1))) ∧ agX [51] M M' ∧ STM (gA M' 0 51) (ev (gA M 0 49) (gA M 0 50) (f :: s)) := by
  refine ⟨pA M 0 51 s.length x, ?_, agX.put M 51 _ _ (by decide), ?_⟩
  · unfold Model_termOf_j79_l5 Model_termOf_j148_l5
    rw [mb_in (by omega) (by decide), mb_gd, mb_nm, mb_cl (by omega), mb_nm, mb_nm, nI_1, nI_1]
  · have := hs.push x (gA (pA M 0 51 s.length x) 0 51) (fun j => by
      rw [mb_AA, ev_len]
      by_cases e : j = s.length
      · rw [if_pos ⟨rfl, rfl, e⟩, if_pos e]
      · rw [if_neg (fun z => e z.2.2), if_neg e])
    show STM _ (f (gA M 0 49) (gA M 0 50) :: ev (gA M 0 49) (gA M 0 50) s)
    rw [hf]
    exact this
theorem te_step {a e : Nat} {c : Nat × Nat} {s : List Sem} (ha : a < e) (he : e ≤ 1000) (h39 : gA M 0 39 a = nI (rk c.1)) (h40 : gA M 0 40 a = nI c.2) (hA : isA c.1) (hk : ok1 6 c s.length) (hl : s.length ≤ 61) (hs : STM (gA M 0 51) (ev (gA M 0 49) (gA M 0 50) s)) : ∃ M', Model_termOf_l5 (nI e) M (nI s.length) (nI a) = some (.inl (M', nI (stI c s).length, nI (a + 1))) ∧ agX [51] M M' ∧ STM (gA M' 0 51) (ev (gA M 0 49) (gA M 0 50) (stI c s)) := by
  obtain ⟨k, d⟩ := c
  unfold ok1 at hk
  dsimp only at hk h39 h40 hA
  have bin : ∀ x : Nat, (x = 5 ∨ x = 6 ∨ x = 7) → gA M 0 39 a = nI (rk x) → 2 ≤ s.length → ∃ M', Model_termOf_l5 (nI e) M (nI s.length) (nI a) = some (.inl (M', nI (stI (x, 0) s).length, nI (a + 1))) ∧ agX [51] M M' ∧ STM (gA M' 0 51) (ev (gA M 0 49) (gA M 0 50) (stI (x, 0) s)) := by
    intro x hx h39 h2
    match s, h2, hl, hs with
    | [], h2, _, _ => exact absurd h2 (show ¬ 2 ≤ 0 by decide)
    | [_], h2, _, _ => exact absurd h2 (show ¬ 2 ≤ 1 by decide)
    | g :: f :: r, _, hl, hs =>
      have hl : r.length + 1 + 1 ≤ 61 := hl
      have hst : stI (x, 0) (g :: f :: r) = (fun now old => apO x (f now old) (g now old)) :: r := by
        rcases hx with rfl | rfl | rfl <;> rfl
      obtain ⟨b1, b2, b3⟩ := STM.bin (r := ev (gA M 0 49) (gA M 0 50) r) hs (apO x (f (gA M 0 49) (gA M 0 50)) (g (gA M 0 49) (gA M 0 50))) (gA (pA M 0 51 r.length (apO x (f (gA M 0 49) (gA M 0 50)) (g (gA M 0 49) (gA M 0 50)))) 0 51) (fun j => by
        rw [mb_AA, ev_len]
        by_cases e : j = r.length
        · rw [if_pos ⟨rfl, rfl, e⟩, if_pos e]
        · rw [if_neg (fun z => e z.2.2), if_neg e])
      rw [ev_len] at b1 b2
      refine ⟨pA M 0 51 r.length (apO x (f (gA M 0 49) (gA M 0 50)) (g (gA M 0 49) (gA M 0 50))), ?_, agX.put M 51 _ _ (by decide), ?_⟩
      · rw [hst]
        have e1 : nI (g :: f :: r).length + (-1) = nI (r.length + 1) := mb_m1 (r.length + 1)
        have e2 : nI (r.length + 1) - 1 = nI r.length := nI_pred r.length
        have tail : ∀ y, Model_termOf_j147_l5 M (nI e) (nI (r.length + 1)) (nI a) (nI r.length) y = some (.inl (pA M 0 51 r.length y, nI (r.length + 1), nI (a + 1))) := by
          intro y
          unfold Model_termOf_j147_l5 Model_termOf_j148_l5
          rw [mb_in (by omega) (by decide), mb_gd, mb_nm, mb_cl (by omega), mb_nm, nI_1]
        unfold Model_termOf_l5
        rw [if_neg (by rw [mb_le (by omega) (by omega)]; omega), mb_in (by omega) (by decide), mb_gd, mb_cl (by omega), h39, mb_nm, if_pos (by rcases hx with rfl | rfl | rfl <;> decide), e1, mb_nm, e2, mb_in (by omega) (by decide), mb_gd, mb_cl (show r.length < 2147483648 by omega), b2, mb_nm, mb_in (by omega) (by decide), mb_gd, mb_cl (show r.length + 1 < 2147483648 by omega), b1, mb_nm, tail, tail, tail]
        rcases hx with rfl | rfl | rfl
        · rw [if_pos (by rfl)]; rfl
        · rw [if_neg (by decide), if_pos (by rfl)]; rfl
        · rw [if_neg (by decide), if_neg (by decide)]; rfl
      · rw [hst]
        exact b3
  have push : ∀ x : Nat, (x = 3 ∨ x = 2 ∨ x = 26) → gA M 0 39 a = nI (rk x) → (x = 3 ∨ d < 6) → d < 10000 → ∃ M', Model_termOf_l5 (nI e) M (nI s.length) (nI a) = some (.inl (M', nI (stI (x, d) s).length, nI (a + 1))) ∧ agX [51] M M' ∧ STM (gA M' 0 51) (ev (gA M 0 49) (gA M 0 50) (stI (x, d) s)) := by
    intro x hx h39 hd hd2
    rcases hx with rfl | rfl | rfl
    · obtain ⟨M', g1, g2, g3⟩ := te_push ha he (nI d) (fun _ _ => nI d) rfl hl hs
      refine ⟨M', ?_, g2, g3⟩
      unfold Model_termOf_l5
      rw [if_neg (by rw [mb_le (by omega) (by omega)]; omega), mb_in (by omega) (by decide), mb_gd, mb_cl (by omega), h39, mb_nm, if_neg (by decide), if_pos (by rfl), mb_gd, h40, g1]
      rfl
    · have hd : d < 6 := by omega
      obtain ⟨M', g1, g2, g3⟩ := te_push ha he (gA M 0 49 d) (fun now _ => now d) rfl hl hs
      refine ⟨M', ?_, g2, g3⟩
      unfold Model_termOf_l5
      rw [if_neg (by rw [mb_le (by omega) (by omega)]; omega), mb_in (by omega) (by decide), mb_gd, mb_cl (by omega), h39, mb_nm, if_neg (by decide), if_neg (by decide), if_pos (by rfl), mb_gd, h40, mb_in hd (by decide), mb_gd, mb_cl (by omega), g1]
      rfl
    · have hd : d < 6 := by omega
      obtain ⟨M', g1, g2, g3⟩ := te_push ha he (gA M 0 50 d) (fun _ old => old d) rfl hl hs
      refine ⟨M', ?_, g2, g3⟩
      unfold Model_termOf_l5
      rw [if_neg (by rw [mb_le (by omega) (by omega)]; omega), mb_in (by omega) (by decide), mb_gd, mb_cl (by omega), h39, mb_nm, if_neg (by decide), if_neg (by decide), if_neg (by decide), mb_gd, h40, mb_in hd (by decide), mb_gd, mb_cl (by omega), g1]
      rfl
  rcases hk with ⟨rfl, h2, h3⟩ | ⟨h1, h2, h3⟩ | ⟨rfl, rfl, h3⟩ | ⟨h1, rfl, h3⟩
  · exact push 3 (Or.inl rfl) h39 (Or.inl rfl) h2
  · rcases h1 with rfl | rfl
    · exact push 2 (Or.inr (Or.inl rfl)) h39 (Or.inr h2) (by omega)
    · exact push 26 (Or.inr (Or.inr rfl)) h39 (Or.inr h2) (by omega)
  · exfalso
    unfold isA at hA
    omega
  · refine bin k ?_ h39 h3
    unfold isA at hA
    rcases hA with rfl | rfl | rfl | h | h | h
    · exact absurd h1 (by decide)
    · exact absurd h1 (by decide)
    · exact absurd h1 (by decide)
    · exact Or.inl h
    · exact Or.inr (Or.inl h)
    · exact Or.inr (Or.inr h)
/-- a piece of the reference's code -/
def RCD (M : St) (a : Nat) (is : List (Nat × Nat)) : Prop := ∀ i c, is[i]? = some c → gA M 0 39 (a + i) = nI (rk c.1) ∧ gA M 0 40 (a + i) = nI c.2 ∧ isA c.1
theorem te_all {e : Nat} (he : e ≤ 1000) : ∀ (is : List (Nat × Nat)) {M : St} {a : Nat} {s : List Sem}, a + is.length = e → RCD M a is → okI 6 is s → STM (gA M 0 51) (ev (gA M 0 49) (gA M 0 50) s) → ∃ M', wh (un3 (Model_termOf_l5 (nI e))) (M, nI s.length, nI a) = some M' ∧ agX [51] M M' ∧ STM (gA M' 0 51) (ev (gA M 0 49) (gA M 0 50) (rnS is s))
  | [], M, a, s, hl, _, _, hs => by
    have e1 : a = e := by
      have hl : a + 0 = e := hl
      omega
    subst e1
    refine ⟨M, wh_inr ?_, agX.rf M, hs⟩
    show Model_termOf_l5 (nI a) M (nI s.length) (nI a) = _
    unfold Model_termOf_l5
    rw [if_pos (by rw [mb_le (by omega) (by omega)]; omega)]
  | c :: is, M, a, s, hl, hc, hk, hs => by
    have hl : a + (is.length + 1) = e := hl
    obtain ⟨c1, c2, c3⟩ := hc 0 c rfl
    obtain ⟨M1, h1, a1, s1⟩ := te_step (show a < e by omega) he c1 c2 c3 hk.1 hk.2.1 hs
    have n1 : gA M1 0 49 = gA M 0 49 := a1.2.2.2 49 (by decide)
    have n2 : gA M1 0 50 = gA M 0 50 := a1.2.2.2 50 (by decide)
    rw [← n1, ← n2] at s1
    obtain ⟨M2, h2, a2, s2⟩ := te_all he is (M := M1) (a := a + 1) (s := stI c s) (by omega) (fun i d hi => by
      rw [a1.2.2.2 39 (by decide), a1.2.2.2 40 (by decide), show a + 1 + i = a + (i + 1) by omega]
      exact hc (i + 1) d hi) hk.2.2 s1
    rw [n1, n2] at s2
    refine ⟨M2, ?_, a1.tr a2, s2⟩
    rw [wh_inl (t := (M1, nI (stI c s).length, nI (a + 1))) h1, h2]
theorem te_run {a : Nat} {is : List (Nat × Nat)} {f : Sem} (he : a + is.length ≤ 1000) (hc : RCD M a is) (hk : okI 6 is []) (hf : rnS is [] = [f]) : ∃ M', f_Model_termOf M (nI a) (nI (a + is.length)) = some (f (gA M 0 49) (gA M 0 50), M') ∧ agX [51] M M' := by
  obtain ⟨M', h1, a1, s1⟩ := te_all he is (M := M) (a := a) (s := []) rfl hc hk (fun i hi => absurd hi (Nat.not_lt_zero i))
  refine ⟨M', ?_, a1⟩
  rw [hf] at s1
  have h0 := s1 0 Nat.zero_lt_one
  have h0 : gA M' 0 51 0 = f (gA M 0 49) (gA M 0 50) := h0
  have h1' : wh (un3 (Model_termOf_l5 (nI (a + is.length)))) (M, (0 : Int32), nI a) = some M' := h1
  unfold f_Model_termOf
  rw [h1', mb_bd, show inb (0 : Int32) 500 = true from rfl, mb_gd, show ((0 : Int32)).toNatClampNeg = 0 from rfl, h0]
/-! literals and what holds -/
abbrev BSem : Type := (Nat → Int32) → (Nat → Int32) → Bool
def cmpB (x : Nat) (a b : Int32) : Bool := if x = 8 then decide (a = b) else if x = 9 then !decide (a = b) else if x = 10 then !decide (b ≤ a) else !decide (b < a)
theorem apO_cmp {x : Nat} (h1 : 8 ≤ x) (h2 : x ≤ 11) (a b : Int32) : apO x a b = b2i (cmpB x a b) := by
  have hx : x = 8 ∨ x = 9 ∨ x = 10 ∨ x = 11 := by omega
  rcases hx with rfl | rfl | rfl | rfl <;> rfl
def litB (x : Nat) (ng : Bool) (f g : Sem) : BSem := fun now old => xor (cmpB x (f now old) (g now old)) ng
def LIT (M : St) (sd ec q : Nat) (o : Bool) (l : BSem) : Prop := ∃ x ng f g a il ir, 8 ≤ x ∧ x ≤ 11 ∧ l = litB x ng f g ∧ gA M 0 32 (200 * sd + q) = nI (x - 8) ∧ gA M 0 33 (200 * sd + q) = b2i ng ∧ gA M 0 34 (200 * sd + q) = b2i o ∧ gA M 0 35 (200 * sd + q) = nI (500 * sd + a) ∧ gA M 0 36 (200 * sd + q) = nI (500 * sd + a + il.length) ∧ gA M 0 37 (200 * sd + q) = nI (500 * sd + a + il.length + ir.length) ∧ a + il.length + ir.length ≤ ec ∧ RCD M (500 * sd + a) il ∧ RCD M (500 * sd + a + il.length) ir ∧ okI 6 il [] ∧ okI 6 ir [] ∧ rnS il [] = [f] ∧ rnS ir [] = [g]
def foL : List (Bool × BSem) → Bool → (Nat → Int32) → (Nat → Int32) → Bool
  | [], x, _, _ => x
  | (o, l) :: r, x, now, old => cond (o && x) true (foL r ((o || x) && l now old) now old)
theorem b2i_ne (a b : Bool) : (b2i a = b2i b) = (xor a b = false) := by cases a <;> cases b <;> simp [b2i]
theorem ho_lit {sd ec q : Nat} {o x : Bool} {l : BSem} {c1 : Int32} (hec : ec ≤ 500) (hsd : sd < 2) (hq : q < 200) (h18 : gI M 0 18 = nI sd) (hc : inb c1 80 = true) (h28 : ¬ gA M 0 28 c1.toNatClampNeg ≤ nI q) (h : LIT M sd ec q o l) (hox : (o && x) = false) : ∃ M', Model_holds_l26 c1 M (b2i x) (nI q) = some (.inl (M', b2i ((o || x) && l (gA M 0 49) (gA M 0 50)), nI (q + 1))) ∧ agX [51] M M' := by
  obtain ⟨y, ng, f, g, a, il, ir, y1, y2, rfl, e32, e33, e34, e35, e36, e37, he, rl, rr, kl, kr, fl, fr⟩ := h
  have hi : inb (nI (200 * sd + q)) 400 = true := mb_in (by omega) (by decide)
  have hcl : (nI (200 * sd + q)).toNatClampNeg = 200 * sd + q := mb_cl (by omega)
  -- the value, when it is looked at
  have val : ∃ M', Model_holds_j76_l26 M c1 1 (nI q) (nI (200 * sd + q)) = some (.inl (M', b2i (litB y ng f g (gA M 0 49) (gA M 0 50)), nI (q + 1))) ∧ agX [51] M M' := by
    obtain ⟨M1, t1, a1⟩ := te_run (M := M) (show 500 * sd + a + il.length ≤ 1000 by omega) rl kl fl
    have n1 : ∀ k, k ≠ 51 → gA M1 0 k = gA M 0 k := fun k hk => a1.2.2.2 k (fun z => hk (by rw [List.mem_singleton] at z; exact z))
    have rr1 : RCD M1 (500 * sd + a + il.length) ir := fun i c hi => by
      rw [n1 39 (by decide), n1 40 (by decide)]
      exact rr i c hi
    obtain ⟨M2, t2, a2⟩ := te_run (M := M1) (show 500 * sd + a + il.length + ir.length ≤ 1000 by omega) rr1 kr fr
    rw [n1 49 (by decide), n1 50 (by decide)] at t2
    have n2 : ∀ k, k ≠ 51 → gA M2 0 k = gA M 0 k := fun k hk => (a2.2.2.2 k (fun z => hk (by rw [List.mem_singleton] at z; exact z))).trans (n1 k hk)
    refine ⟨M2, ?_, a1.tr a2⟩
    have t212 : ∀ z : Bool, Model_holds_j212_l26 M2 c1 (nI q) (nI (200 * sd + q)) (b2i z) = some (.inl (M2, b2i (xor z ng), nI (q + 1))) := by
      intro z
      unfold Model_holds_j212_l26 Model_holds_j231_l26 Model_holds_j232_l26
      rw [hi, mb_gd, hcl, n2 33 (by decide), e33, mb_nm, nI_1]
      by_cases w : xor z ng = false
      · rw [if_pos (by rw [b2i_ne]; exact w), w]; rfl
      · have w' : xor z ng = true := by
          cases hw : xor z ng with
          | true => rfl
          | false => exact absurd hw w
        rw [if_neg (by rw [b2i_ne]; exact w), w']
        rfl
    unfold Model_holds_j76_l26
    rw [if_neg (by decide), hi, mb_gd, mb_gd, hcl, e35, e36, t1, mb_bd2, mb_gd, mb_gd, n1 36 (by decide), n1 37 (by decide), e36, e37, t2, mb_bd2, mb_gd, n2 32 (by decide), e32]
    have hy : y = 8 ∨ y = 9 ∨ y = 10 ∨ y = 11 := by omega
    have c0 := t212 false
    have c1' := t212 true
    have c0 : Model_holds_j212_l26 M2 c1 (nI q) (nI (200 * sd + q)) (0 : Int32) = some (.inl (M2, b2i (xor false ng), nI (q + 1))) := c0
    have c1' : Model_holds_j212_l26 M2 c1 (nI q) (nI (200 * sd + q)) (1 : Int32) = some (.inl (M2, b2i (xor true ng), nI (q + 1))) := c1'
    unfold litB
    generalize f (gA M 0 49) (gA M 0 50) = u at *
    generalize g (gA M 0 49) (gA M 0 50) = w at *
    rcases hy with rfl | rfl | rfl | rfl
    · rw [if_pos (by rfl)]
      by_cases z : u = w
      · rw [if_pos z, c1', show cmpB 8 u w = true from decide_eq_true z]
      · rw [if_neg z, c0, show cmpB 8 u w = false from decide_eq_false z]
    · rw [if_neg (by decide), mb_gd, if_pos (by rfl)]
      by_cases z : u = w
      · rw [if_pos z, c0, show cmpB 9 u w = false by show (!decide (u = w)) = false; rw [decide_eq_true z]; rfl]
      · rw [if_neg z, c1', show cmpB 9 u w = true by show (!decide (u = w)) = true; rw [decide_eq_false z]; rfl]
    · rw [if_neg (by decide), mb_gd, if_neg (by decide), mb_gd, if_pos (by rfl)]
      by_cases z : w ≤ u
      · rw [if_pos z, c0, show cmpB 10 u w = false by show (!decide (w ≤ u)) = false; rw [decide_eq_true z]; rfl]
      · rw [if_neg z, c1', show cmpB 10 u w = true by show (!decide (w ≤ u)) = true; rw [decide_eq_false z]; rfl]
    · rw [if_neg (by decide), mb_gd, if_neg (by decide), mb_gd, if_neg (by decide)]
      by_cases z : w < u
      · rw [if_pos z, c0, show cmpB 11 u w = false by show (!decide (w < u)) = false; rw [decide_eq_true z]; rfl]
      · rw [if_neg z, c1', show cmpB 11 u w = true by show (!decide (w < u)) = true; rw [decide_eq_false z]; rfl]
  obtain ⟨M', v1, v2⟩ := val
  unfold Model_holds_l26
  rw [hc, mb_gd, if_neg h28, h18, show (200 : Int32) = nI 200 from rfl, pk_mul, nI_add, mb_nm, hi, mb_gd, hcl, e34]
  cases o with
  | false =>
    rw [if_pos (by rfl)]
    unfold Model_holds_j64_l26
    rw [hi, mb_gd, hcl, e34, if_pos (by rfl)]
    cases x with
    | false =>
      refine ⟨M, ?_, agX.rf M⟩
      unfold Model_holds_j76_l26 Model_holds_j232_l26
      rw [if_pos (by rfl), mb_nm, nI_1]
      rfl
    | true => exact ⟨M', v1, v2⟩
  | true =>
    cases x with
    | true => cases hox
    | false =>
      rw [if_neg (by decide), if_pos (by rfl)]
      unfold Model_holds_j64_l26
      rw [hi, mb_gd, hcl, e34, if_neg (by decide)]
      exact ⟨M', v1, v2⟩
theorem LIT.ax {sd ec q : Nat} {o : Bool} {l : BSem} (h : LIT M sd ec q o l) (a : agX [51] M M') : LIT M' sd ec q o l := by
  have n1 : ∀ k, k ≠ 51 → gA M' 0 k = gA M 0 k := fun k hk => a.2.2.2 k (fun z => hk (by rw [List.mem_singleton] at z; exact z))
  unfold LIT RCD
  rw [n1 32 (by decide), n1 33 (by decide), n1 34 (by decide), n1 35 (by decide), n1 36 (by decide), n1 37 (by decide), n1 39 (by decide), n1 40 (by decide)]
  exact h
theorem ho_all {sd ec hi c : Nat} (hec : ec ≤ 500) (hsd : sd < 2) (hhi : hi ≤ 200) (hc : c < 80) : ∀ (ls : List (Bool × BSem)) {M : St} {q : Nat} {x : Bool}, q + ls.length = hi → gI M 0 18 = nI sd → gA M 0 28 c = nI hi → (∀ i o l, ls[i]? = some (o, l) → LIT M sd ec (q + i) o l) → ∃ M', wh (un3 (Model_holds_l26 (nI c))) (M, b2i x, nI q) = some (b2i (foL ls x (gA M 0 49) (gA M 0 50)), M') ∧ agX [51] M M'
  | [], M, q, x, hl, h18, h28, _ => by
    have e1 : q = hi := by
      have hl : q + 0 = hi := hl
      omega
    subst e1
    refine ⟨M, wh_inr ?_, agX.rf M⟩
    show Model_holds_l26 (nI c) M (b2i x) (nI q) = _
    unfold Model_holds_l26
    rw [mb_in hc (by decide), mb_gd, mb_cl (by omega), h28, if_pos (by rw [mb_le (by omega) (by omega)]; omega)]
    cases x
    · rw [show isB (b2i false) = true from rfl, mb_gd]
      rfl
    · rw [show isB (b2i true) = true from rfl, mb_gd]
      rfl
  | (o, l) :: ls, M, q, x, hl, h18, h28, hL => by
    have hl : q + (ls.length + 1) = hi := hl
    have h0 := hL 0 o l rfl
    have hc0 : inb (nI c) 80 = true := mb_in hc (by decide)
    have h28' : ¬ gA M 0 28 (nI c).toNatClampNeg ≤ nI q := by
      rw [mb_cl (by omega), h28, mb_le (by omega) (by omega)]
      omega
    by_cases hox : (o && x) = true
    · rw [Bool.and_eq_true] at hox
      refine ⟨M, wh_inr ?_, agX.rf M⟩
      obtain ⟨y, ng, f, g, a, il, ir, y1, y2, e0, e32, e33, e34, -⟩ := h0
      show Model_holds_l26 (nI c) M (b2i x) (nI q) = _
      unfold Model_holds_l26
      rw [hc0, mb_gd, if_neg h28', h18, show (200 : Int32) = nI 200 from rfl, pk_mul, nI_add, mb_nm, mb_in (by omega) (by decide), mb_gd, mb_cl (by omega)]
      rw [Nat.add_zero] at e34
      rw [e34, hox.1, hox.2, if_neg (by decide), if_neg (by decide)]
      rfl
    · have hox : (o && x) = false := Bool.not_eq_true _ ▸ hox
      obtain ⟨M1, h1, a1⟩ := ho_lit hec hsd (show q < 200 by omega) h18 hc0 h28' h0 hox
      have n1 : ∀ k, k ≠ 51 → gA M1 0 k = gA M 0 k := fun k hk => a1.2.2.2 k (fun z => hk (by rw [List.mem_singleton] at z; exact z))
      obtain ⟨M2, h2, a2⟩ := ho_all hec hsd hhi hc ls (M := M1) (q := q + 1) (x := (o || x) && l (gA M 0 49) (gA M 0 50)) (by omega) (by rw [a1.1]; exact h18) (by rw [n1 28 (by decide)]; exact h28) (fun i o' l' hi => by
        rw [show q + 1 + i = q + (i + 1) by omega]
        exact (hL (i + 1) o' l' hi).ax a1)
      rw [n1 49 (by decide), n1 50 (by decide)] at h2
      refine ⟨M2, ?_, a1.tr a2⟩
      rw [wh_inl (t := (M1, b2i ((o || x) && l (gA M 0 49) (gA M 0 50)), nI (q + 1))) h1, h2]
      show _ = some (b2i (cond (o && x) true _), M2)
      rw [hox]
      rfl
/-- a condition, as the reference holds it -/
def CND (M : St) (sd ec lc c : Nat) (ls : List (Bool × BSem)) : Prop := ∃ lo, gA M 0 27 (40 * sd + c) = nI lo ∧ gA M 0 28 (40 * sd + c) = nI (lo + ls.length) ∧ lo + ls.length ≤ lc ∧ ∀ i o l, ls[i]? = some (o, l) → LIT M sd ec (lo + i) o l
def cnB (ls : List (Bool × BSem)) : BSem := fun now old => match ls with
  | [] => true
  | _ :: _ => foL ls false now old
theorem ho_run {sd ec lc c : Nat} {ls : List (Bool × BSem)} (hec : ec ≤ 500) (hlc : lc ≤ 200) (hsd : sd < 2) (hc : c < 40) (h18 : gI M 0 18 = nI sd) (h : CND M sd ec lc c ls) : ∃ M', f_Model_holds M (nI (40 * sd + c)) = some (b2i (cnB ls (gA M 0 49) (gA M 0 50)), M') ∧ agX [51] M M' := by
  obtain ⟨lo, e27, e28, hl, hL⟩ := h
  unfold f_Model_holds
  rw [mb_in (show 40 * sd + c < 80 by omega) (by decide), mb_gd, mb_gd, mb_cl (by omega), e27, e28]
  cases hls : ls with
  | nil =>
    rw [if_pos (by rfl)]
    exact ⟨M, rfl, agX.rf M⟩
  | cons p r =>
    have hlen : ls.length = r.length + 1 := by rw [hls]; rfl
    rw [← hls, if_neg (by rw [mb_eq (by omega) (by omega)]; omega), mb_gd, mb_nm]
    obtain ⟨M', h1, a1⟩ := ho_all (x := false) hec hsd (show lo + ls.length ≤ 200 by omega) (show 40 * sd + c < 80 by omega) ls (M := M) (q := lo) rfl h18 e28 hL
    refine ⟨M', ?_, a1⟩
    have h1 : wh (un3 (Model_holds_l26 (nI (40 * sd + c)))) (M, (0 : Int32), nI lo) = _ := h1
    rw [h1]
    unfold cnB
    rw [hls]
