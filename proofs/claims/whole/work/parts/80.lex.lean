/-! reading: how a text is cut into tokens -/
def isBl (c : Nat) : Bool := Nat.beq c 9 || Nat.beq c 10 || Nat.beq c 13 || Nat.beq c 32
def isLe (c : Nat) : Bool := Nat.ble 97 c && Nat.ble c 122
def isDi (c : Nat) : Bool := Nat.ble 48 c && Nat.ble c 57
def isAl (c : Nat) : Bool := isLe c || isDi c
def sx (c : Nat) : Int32 := (nI c).toInt8.toInt32
theorem sx_bl : ∀ c, c < 256 → f_Scanner_isBlank (sx c) = some (b2i (isBl c)) := by decide +kernel
theorem sx_le : ∀ c, c < 256 → f_Scanner_isLetter (sx c) = some (b2i (isLe c)) := by decide +kernel
theorem sx_di : ∀ c, c < 256 → f_Scanner_isDigit (sx c) = some (b2i (isDi c)) := by decide +kernel
theorem nx_le : ∀ c, c < 256 → f_Model_isLetter (nI c) = some (b2i (isLe c)) := by decide +kernel
theorem nx_di : ∀ c, c < 256 → f_Model_isDigit (nI c) = some (b2i (isDi c)) := by decide +kernel
theorem nx_bl : ∀ c, c < 256 → (nI c = 9 ∨ nI c = 10 ∨ nI c = 13 ∨ nI c = 32 ↔ isBl c = true) := by decide +kernel
theorem sx_255 : ∀ c, c < 256 → sx c &&& 255 = nI c := by decide +kernel
theorem sx_nar : ∀ c, c < 256 → vp_nar .byte (sx c) = sx c := by decide +kernel
theorem sx_61 : ∀ c, c < 256 → (sx c = 61 ↔ c = 61) := by decide +kernel
/-- the end of a run -/
def rn (P : Nat → Bool) (v : Nat → Nat) : Nat → Nat → Nat
  | 0, a => a
  | d + 1, a => cond (P (v a)) (rn P v d (a + 1)) a
def rnE (P : Nat → Bool) (v : Nat → Nat) (n a : Nat) : Nat := rn P v (n - a) a
theorem rn_le (P : Nat → Bool) (v : Nat → Nat) : ∀ d a, a ≤ rn P v d a ∧ rn P v d a ≤ a + d
  | 0, a => ⟨Nat.le_refl a, Nat.le_refl a⟩
  | d + 1, a => by
    have h := rn_le P v d (a + 1)
    show a ≤ cond (P (v a)) (rn P v d (a + 1)) a ∧ cond (P (v a)) (rn P v d (a + 1)) a ≤ a + (d + 1)
    cases P (v a)
    · exact ⟨Nat.le_refl a, by show a ≤ _; omega⟩
    · show a ≤ rn P v d (a + 1) ∧ rn P v d (a + 1) ≤ a + (d + 1)
      omega
theorem rn_in (P : Nat → Bool) (v : Nat → Nat) : ∀ d a j, a ≤ j → j < rn P v d a → P (v j) = true
  | 0, a, j, h1, h2 => by
    have h2 : j < a := h2
    omega
  | d + 1, a, j, h1, h2 => by
    have h2 : j < cond (P (v a)) (rn P v d (a + 1)) a := h2
    cases hp : P (v a) with
    | false =>
      rw [hp] at h2
      have h2 : j < a := h2
      omega
    | true =>
      rw [hp] at h2
      by_cases e : j = a
      · rw [e]; exact hp
      · exact rn_in P v d (a + 1) j (by omega) h2
theorem rn_out (P : Nat → Bool) (v : Nat → Nat) : ∀ d a, rn P v d a < a + d → P (v (rn P v d a)) = false
  | 0, a, h => by
    have h : a < a + 0 := h
    omega
  | d + 1, a, h => by
    have h' : cond (P (v a)) (rn P v d (a + 1)) a < a + (d + 1) := h
    show P (v (cond (P (v a)) (rn P v d (a + 1)) a)) = false
    cases hp : P (v a) with
    | false => exact hp
    | true =>
      rw [hp] at h'
      exact rn_out P v d (a + 1) (by have h' : rn P v d (a + 1) < a + (d + 1) := h'; omega)
variable {v : Nat → Nat} {n : Nat}
theorem rnE_le (P : Nat → Bool) {a : Nat} (h : a ≤ n) : a ≤ rnE P v n a ∧ rnE P v n a ≤ n := by
  have := rn_le P v (n - a) a
  unfold rnE
  omega
theorem rnE_in {P : Nat → Bool} {a j : Nat} (h1 : a ≤ j) (h2 : j < rnE P v n a) : P (v j) = true := rn_in P v (n - a) a j h1 h2
theorem rnE_out {P : Nat → Bool} {a : Nat} (h : a ≤ n) (h2 : rnE P v n a < n) : P (v (rnE P v n a)) = false := rn_out P v (n - a) a (by
  have h2 : rn P v (n - a) a < n := h2
  omega)
theorem rnE_n (P : Nat → Bool) : rnE P v n n = n := by
  unfold rnE
  rw [Nat.sub_self]
  rfl
theorem rnE_t {P : Nat → Bool} {a : Nat} (h : a < n) (hp : P (v a) = true) : rnE P v n a = rnE P v n (a + 1) := by
  unfold rnE
  rw [show n - a = (n - (a + 1)) + 1 by omega]
  show cond (P (v a)) (rn P v (n - (a + 1)) (a + 1)) a = _
  rw [hp]
  rfl
theorem rnE_f {P : Nat → Bool} {a : Nat} (hp : P (v a) = false) : rnE P v n a = a := by
  unfold rnE
  cases hd : n - a with
  | zero => rfl
  | succ d =>
    show cond (P (v a)) (rn P v d (a + 1)) a = _
    rw [hp]
    rfl
/-- the signs -/
def sgE (c : Nat) : Nat := if c = 61 then 8 else if c = 33 then 9 else if c = 60 then 11 else 1
def sgP (c : Nat) : Nat := if c = 59 then 4 else if c = 43 then 5 else if c = 45 then 6 else if c = 42 then 7 else if c = 60 then 10 else if c = 40 then 12 else if c = 41 then 13 else 1
theorem sx_sgE : ∀ c, c < 256 → f_Scanner_signWithEqual (sx c) = some (nI (sgE c)) := by decide +kernel
theorem sx_sgP : ∀ c, c < 256 → f_Scanner_plainSign (sx c) = some (nI (sgP c)) := by decide +kernel
def sgK (c : Nat) (q : Bool) : Nat := cond q (cond (Nat.beq (sgE c) 1) (sgP c) (sgE c)) (sgP c)
def sgL (c : Nat) (q : Bool) : Nat := cond q (cond (Nat.beq (sgE c) 1) 1 2) 1
/-- names, the last letter first; their numbers on either side -/
def chR (v : Nat → Nat) (a : Nat) : Nat → List Nat
  | 0 => []
  | i + 1 => v (a + i) :: chR v a i
def nuR (v : Nat → Nat) (a : Nat) : Nat → Nat
  | 0 => 0
  | i + 1 => 10 * nuR v a i + (v (a + i) - 48)
def dgM (c : Nat) : Nat := cond (isDi c) (c - 48 + 27) (c - 97 + 1)
def enc (B : Nat) (f : Nat → Nat) : List Nat → Nat
  | [] => 0
  | c :: r => B * enc B f r + f c
def encC (w : List Nat) : Nat := enc 256 (fun c => c) w
def encM (w : List Nat) : Nat := enc 37 dgM w
def alW (w : List Nat) : Prop := ∀ c ∈ w, isAl c = true
theorem al_lt : ∀ c, c < 256 → isAl c = true → 1 ≤ dgM c ∧ dgM c < 37 ∧ 1 ≤ c ∧ c < 128 := by decide +kernel
theorem al_256 {c : Nat} (h : isAl c = true) : c < 256 := by
  unfold isAl isLe isDi at h
  rw [Bool.or_eq_true, Bool.and_eq_true, Bool.and_eq_true] at h
  rcases h with ⟨_, h⟩ | ⟨_, h⟩
  · have := Nat.le_of_ble_eq_true h; omega
  · have := Nat.le_of_ble_eq_true h; omega
theorem al_inj0 : ∀ c, c < 128 → ∀ d, d < 128 → isAl c = true → isAl d = true → dgM c = dgM d → c = d := by decide +kernel
theorem al_inj {c d : Nat} (hc : isAl c = true) (hd : isAl d = true) (h : dgM c = dgM d) : c = d := al_inj0 c (al_lt c (al_256 hc) hc).2.2.2 d (al_lt d (al_256 hd) hd).2.2.2 hc hd h
theorem enc_inj {B : Nat} {f : Nat → Nat} (hf : ∀ c, isAl c = true → 1 ≤ f c ∧ f c < B) (hi : ∀ c d, isAl c = true → isAl d = true → f c = f d → c = d) : ∀ {w u : List Nat}, alW w → alW u → enc B f w = enc B f u → w = u
  | [], [], _, _, _ => rfl
  | [], d :: u, _, hu, h => by
    have := (hf d (hu d List.mem_cons_self)).1
    have h : 0 = B * enc B f u + f d := h
    omega
  | c :: w, [], hw, _, h => by
    have := (hf c (hw c List.mem_cons_self)).1
    have h : B * enc B f w + f c = 0 := h
    omega
  | c :: w, d :: u, hw, hu, h => by
    have h1 := hf c (hw c List.mem_cons_self)
    have h2 := hf d (hu d List.mem_cons_self)
    have h : B * enc B f w + f c = B * enc B f u + f d := h
    have hm := congrArg (fun z => z % B) h
    have hd := congrArg (fun z => z / B) h
    simp only [Nat.mul_add_mod] at hm
    rw [Nat.mod_eq_of_lt h1.2, Nat.mod_eq_of_lt h2.2] at hm
    have e1 := hi c d (hw c List.mem_cons_self) (hu d List.mem_cons_self) hm
    have hB : 0 < B := by omega
    simp only [Nat.mul_add_div hB] at hd
    rw [Nat.div_eq_of_lt h1.2, Nat.div_eq_of_lt h2.2, Nat.add_zero, Nat.add_zero] at hd
    have e2 := enc_inj hf hi (fun x hx => hw x (List.mem_cons_of_mem c hx)) (fun x hx => hu x (List.mem_cons_of_mem d hx)) hd
    rw [e1, e2]
theorem enc_lt {B : Nat} {f : Nat → Nat} (hf : ∀ c, isAl c = true → f c < B) : ∀ {w : List Nat}, alW w → enc B f w < B ^ w.length
  | [], _ => Nat.zero_lt_one
  | c :: w, hw => by
    have h1 := hf c (hw c List.mem_cons_self)
    have h2 := enc_lt hf (w := w) (fun x hx => hw x (List.mem_cons_of_mem c hx))
    show B * enc B f w + f c < B ^ (w.length + 1)
    have h3 : B * enc B f w + B ≤ B * B ^ w.length := by
      rw [← Nat.mul_succ]
      exact Nat.mul_le_mul_left B h2
    rw [Nat.pow_succ, Nat.mul_comm]
    rw [Nat.mul_comm] at h3
    rw [Nat.mul_comm (B ^ w.length) B]
    omega
theorem encC_lt1 : ∀ {w : List Nat}, alW w → ∀ l, w.length = l + 1 → enc 256 (fun c => c) w < 128 * 256 ^ l
  | [], _, l, h => by cases h
  | [c], hw, l, h => by
    have h1 := (al_lt c (al_256 (hw c List.mem_cons_self)) (hw c List.mem_cons_self)).2.2.2
    have e : l = 0 := by
      have h : 0 + 1 = l + 1 := h
      omega
    subst e
    show 256 * 0 + c < 128 * 1
    omega
  | c :: d :: r, hw, l, h => by
    have h1 := (al_lt c (al_256 (hw c List.mem_cons_self)) (hw c List.mem_cons_self)).2.2.2
    obtain ⟨m, rfl⟩ : ∃ m, l = m + 1 := ⟨l - 1, by
      have h : r.length + 1 + 1 = l + 1 := h
      omega⟩
    have ih := encC_lt1 (w := d :: r) (fun x hx => hw x (List.mem_cons_of_mem c hx)) m (by
      have h : r.length + 1 + 1 = m + 1 + 1 := h
      show r.length + 1 = m + 1
      omega)
    show 256 * enc 256 (fun c => c) (d :: r) + c < 128 * 256 ^ (m + 1)
    rw [Nat.pow_succ]
    omega
theorem encC_lt {w : List Nat} (h : alW w) (hl : w.length ≤ 8) : encC w < 2 ^ 63 := by
  cases hw : w.length with
  | zero =>
    rw [List.length_eq_zero_iff.mp hw]
    decide
  | succ l =>
    have h1 := encC_lt1 h l hw
    have h2 : 256 ^ l ≤ 256 ^ 7 := Nat.pow_le_pow_right (by decide) (by omega)
    have h3 : (128 * 256 ^ 7 : Nat) = 2 ^ 63 := by decide
    unfold encC
    omega
theorem encM_lt {w : List Nat} (h : alW w) (hl : w.length ≤ 8) : encM w < 2 ^ 63 := by
  have h1 : encM w < 37 ^ w.length := enc_lt (fun x hx => (al_lt x (al_256 hx) hx).2.1) h
  have h2 : 37 ^ w.length ≤ 37 ^ 8 := Nat.pow_le_pow_right (by decide) hl
  have h3 : (37 ^ 8 : Nat) < 2 ^ 63 := by decide
  omega
theorem encC_eq {w u : List Nat} (hw : alW w) (hu : alW u) (h1 : w.length ≤ 8) (h2 : u.length ≤ 8) : lN (encC w) = lN (encC u) ↔ w = u := by
  rw [pk_lEQ (encC_lt hw h1) (encC_lt hu h2)]
  exact ⟨fun h => enc_inj (fun c hc => by have := al_lt c (al_256 hc) hc; omega) (fun c d _ _ h => h) hw hu h, fun h => by rw [h]⟩
theorem encM_eq {w u : List Nat} (hw : alW w) (hu : alW u) (h1 : w.length ≤ 8) (h2 : u.length ≤ 8) : lN (encM w) = lN (encM u) ↔ w = u := by
  rw [pk_lEQ (encM_lt hw h1) (encM_lt hu h2)]
  exact ⟨fun h => enc_inj (fun c hc => by have := al_lt c (al_256 hc) hc; omega) (fun c d hc hd h => al_inj hc hd h) hw hu h, fun h => by rw [h]⟩
/-- the words, the last letter first -/
def wdM : List (List Nat) := [[100, 108, 101, 105, 102], [109, 111, 114, 102], [111, 116], [119, 97, 108], [116, 102, 111, 115], [110, 105, 98], [116, 120, 101, 110], [101, 114, 97, 104, 115], [102, 105], [114, 111], [100, 110, 97], [116, 111, 110], [100, 108, 111]]
def wix (w : List Nat) : Nat → Option Nat
  | 0 => none
  | k + 1 => match wix w k with
    | some j => some j
    | none => if wdM.getD k [] = w then some k else none
def wKd (w : List Nat) : Nat := match wix w 13 with
  | some j => 14 + j
  | none => 2
theorem wdM_al : ∀ k, k < 13 → (wdM.getD k []).all isAl = true ∧ (wdM.getD k []).length ≤ 5 := by decide
theorem wdM_alW {k : Nat} (hk : k < 13) : alW (wdM.getD k []) := fun c hc => List.all_eq_true.mp (wdM_al k hk).1 c hc
theorem wdF_C : ∀ k, k < 13 → wdF k = lN (encC (wdM.getD k [])) := by decide
theorem key_M : ∀ k, k < 13 → keyL.getD k 0 = lN (encM (wdM.getD k [])) := by decide
theorem wix_s {w : List Nat} : ∀ {m j : Nat}, wix w m = some j → j < m ∧ wdM.getD j [] = w ∧ ∀ i, i < j → ¬ wdM.getD i [] = w
  | 0, j, h => by cases h
  | m + 1, j, h => by
    have h : (match wix w m with | some j => some j | none => if wdM.getD m [] = w then some m else none) = some j := h
    cases hx : wix w m with
    | some q =>
      rw [hx] at h
      cases h
      have := wix_s hx
      exact ⟨by omega, this.2⟩
    | none =>
      rw [hx] at h
      have hn : ∀ m, wix w m = none → ∀ i, i < m → ¬ wdM.getD i [] = w := by
        intro m
        induction m with
        | zero => intro _ i hi; exact absurd hi (Nat.not_lt_zero i)
        | succ m ih =>
          intro hq i hi
          have hq : (match wix w m with | some j => some j | none => if wdM.getD m [] = w then some m else none) = none := hq
          cases hy : wix w m with
          | some q => rw [hy] at hq; cases hq
          | none =>
            rw [hy] at hq
            dsimp only at hq
            by_cases e : i = m
            · subst e
              intro z
              rw [if_pos z] at hq
              cases hq
            · exact ih hy i (by omega)
      dsimp only at h
      by_cases c : wdM.getD m [] = w
      · rw [if_pos c] at h
        cases h
        exact ⟨by omega, c, hn m hx⟩
      · rw [if_neg c] at h
        cases h
theorem wix_n {w : List Nat} : ∀ {m : Nat}, wix w m = none → ∀ i, i < m → ¬ wdM.getD i [] = w
  | 0, _, i, hi => absurd hi (Nat.not_lt_zero i)
  | m + 1, hq, i, hi => by
    have hq : (match wix w m with | some j => some j | none => if wdM.getD m [] = w then some m else none) = none := hq
    cases hy : wix w m with
    | some q => rw [hy] at hq; cases hq
    | none =>
      rw [hy] at hq
      dsimp only at hq
      by_cases e : i = m
      · subst e
        intro z
        rw [if_pos z] at hq
        cases hq
      · exact wix_n hy i (by omega)
theorem wdM_inj : ∀ i, i < 13 → ∀ j, j < 13 → wdM.getD i [] = wdM.getD j [] → i = j := by decide
/-! tokens: kind, place, number, name, where the next begins -/
def tkAt (v : Nat → Nat) (n p : Nat) : Nat × Nat × Nat × List Nat × Nat :=
  if p < n then
    cond (isLe (v p)) ((if rnE isAl v n p - p ≤ 8 then wKd (chR v p (rnE isAl v n p - p)) else 1), p, 0, chR v p (rnE isAl v n p - p), rnE isAl v n p)
      (cond (isDi (v p)) ((if rnE isDi v n p - p ≤ 4 then 3 else 1), p, nuR v p (rnE isDi v n p - p), [], rnE isDi v n p)
        (sgK (v p) (decide (p + 1 < n) && Nat.beq (v (p + 1)) 61), p, 0, [], p + sgL (v p) (decide (p + 1 < n) && Nat.beq (v (p + 1)) 61)))
  else (0, n, 0, [], n)
def ps (v : Nat → Nat) (n : Nat) : Nat → Nat
  | 0 => 0
  | k + 1 => (tkAt v n (rnE isBl v n (ps v n k))).2.2.2.2
def tok (v : Nat → Nat) (n k : Nat) : Nat × Nat × Nat × List Nat × Nat := tkAt v n (rnE isBl v n (ps v n k))
def tK (v : Nat → Nat) (n k : Nat) : Nat := (tok v n k).1
def tP (v : Nat → Nat) (n k : Nat) : Nat := (tok v n k).2.1
def tN (v : Nat → Nat) (n k : Nat) : Nat := (tok v n k).2.2.1
def tWd (v : Nat → Nat) (n k : Nat) : List Nat := (tok v n k).2.2.2.1
