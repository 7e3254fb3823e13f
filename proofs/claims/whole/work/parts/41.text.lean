/-! what a text tells, apart from how it is held -/
abbrev Tx : Type := Nat × (Nat → Nat) × (Nat → Nat) × (Nat → Nat) × (Nat → Nat → (Nat → Int32) → (Nat → Int32) → Bool) × (Nat → Nat) × (Nat → (Nat → Int32) → Int32)
def tNf (T : Tx) : Nat := T.1
def tFr (T : Tx) (f : Nat) : Nat := T.2.1 f
def tMa (T : Tx) (f : Nat) : Nat := T.2.2.1 f
def tNt (T : Tx) (s : Nat) : Nat := T.2.2.2.1 s
def tCd (T : Tx) (s k : Nat) (now old : Nat → Int32) : Bool := T.2.2.2.2.1 s k now old
def tWt (T : Tx) (k : Nat) : Nat := T.2.2.2.2.2.1 k
def tAm (T : Tx) (k : Nat) (now : Nat → Int32) : Int32 := T.2.2.2.2.2.2 k now
/-- the product of n numbers from f on -/
def pr (ma : Nat → Nat) : Nat → Nat → Nat
  | _, 0 => 1
  | f, n + 1 => ma f * pr ma (f + 1) n
def tSd (T : Tx) (f : Nat) : Nat := pr (tMa T) (f + 1) (tNf T - (f + 1))
def tIn (T : Tx) : Nat := pr (tMa T) 0 (tNf T)
def tVa (T : Tx) (i f : Nat) : Nat := tFr T f + i / tSd T f % tMa T f
def tEv (T : Tx) (i : Nat) : Nat → Int32 := fun f => nI (tVa T i f)
def wfT (T : Tx) : Prop := tNf T ≤ 6 ∧ (∀ f, f < tNf T → 1 ≤ tMa T f ∧ tFr T f + tMa T f ≤ 10000) ∧ tIn T ≤ 32768 ∧ (∀ s, s < 5 → tNt T s ≤ 8) ∧ (∀ k, k < tNt T 1 → tWt T k ≤ 9999) ∧
  (∀ s k, s < 5 → k < tNt T s → ∀ now now' old old' : Nat → Int32, (∀ f, f < tNf T → now f = now' f) → (s = 3 → ∀ f, f < tNf T → old f = old' f) → tCd T s k now old = tCd T s k now' old') ∧
  (∀ k, k < tNt T 4 → ∀ now now' : Nat → Int32, (∀ f, f < tNf T → now f = now' f) → tAm T k now = tAm T k now')
def b2i (b : Bool) : Int32 := cond b 1 0
theorem b2i_0 (b : Bool) : (b2i b = 0) = (b = false) := by cases b <;> simp [b2i]
theorem pr_pos {ma : Nat → Nat} : ∀ (n f : Nat), (∀ g, f ≤ g → g < f + n → 1 ≤ ma g) → 1 ≤ pr ma f n
  | 0, _, _ => Nat.le_refl 1
  | n + 1, f, h => by
    have h1 := h f (Nat.le_refl f) (by omega)
    have h2 := pr_pos n (f + 1) (fun g a b => h g (by omega) (by omega))
    exact Nat.mul_pos h1 h2
theorem pr_split {ma : Nat → Nat} : ∀ (a b f : Nat), pr ma f (a + b) = pr ma f a * pr ma (f + a) b
  | 0, b, f => by simp [pr]
  | a + 1, b, f => by
    rw [show a + 1 + b = (a + b) + 1 by omega]
    show ma f * pr ma (f + 1) (a + b) = ma f * pr ma (f + 1) a * pr ma (f + (a + 1)) b
    rw [pr_split a b (f + 1), Nat.mul_assoc, show f + 1 + a = f + (a + 1) by omega]
theorem tSd_pos {T : Tx} (h : wfT T) {f : Nat} (hf : f < tNf T) : 1 ≤ tSd T f := pr_pos _ _ (fun g a b => (h.2.1 g (by omega)).1)
theorem tIn_pos {T : Tx} (h : wfT T) : 1 ≤ tIn T := pr_pos _ _ (fun g _ b => (h.2.1 g (by omega)).1)
theorem tSd_le {T : Tx} (h : wfT T) {f : Nat} (hf : f < tNf T) : tSd T f ≤ tIn T := by
  have e : tIn T = pr (tMa T) 0 (f + 1) * tSd T f := by
    unfold tIn tSd
    rw [show tNf T = (f + 1) + (tNf T - (f + 1)) by omega, pr_split, Nat.zero_add]
    rw [show f + 1 + (tNf T - (f + 1)) - (f + 1) = tNf T - (f + 1) by omega]
  have h1 : 1 ≤ pr (tMa T) 0 (f + 1) := pr_pos _ _ (fun g _ b => (h.2.1 g (by omega)).1)
  rw [e]
  exact Nat.le_mul_of_pos_left _ h1
theorem tVa_lt {T : Tx} (h : wfT T) {f : Nat} (hf : f < tNf T) (i : Nat) : tVa T i f < 10000 := by
  have h1 := h.2.1 f hf
  have h2 : i / tSd T f % tMa T f < tMa T f := Nat.mod_lt _ (by omega)
  unfold tVa
  omega
/-! bits -/
theorem sh_bit : ∀ k, k < 8 → (1 : Int32) <<< (nI k &&& 31) = nI (2 ^ k) := by decide
theorem nI_or (a b : Nat) : nI a ||| nI b = nI (a ||| b) := by
  apply Int32.toBitVec_inj.mp
  show (BitVec.ofNat 32 a) ||| (BitVec.ofNat 32 b) = BitVec.ofNat 32 (a ||| b)
  exact (BitVec.ofNat_or ..).symm
theorem nI_and (a b : Nat) : nI a &&& nI b = nI (a &&& b) := by
  apply Int32.toBitVec_inj.mp
  show (BitVec.ofNat 32 a) &&& (BitVec.ofNat 32 b) = BitVec.ofNat 32 (a &&& b)
  exact (BitVec.ofNat_and ..).symm
theorem or_pow {m k : Nat} (h : m < 2 ^ k) : m ||| 2 ^ k = m + 2 ^ k := by
  have := Nat.two_pow_add_eq_or_of_lt h 1
  rw [Nat.mul_one] at this
  rw [Nat.or_comm, ← this]
  omega
theorem or_bit {m k : Nat} (h : m < 2 ^ k) (hk : k < 8) : nI m ||| ((1 : Int32) <<< (nI k &&& 31)) = nI (m + 2 ^ k) := by
  rw [sh_bit k hk, nI_or, or_pow h]
def bK (T : Tx) (s i : Nat) : Nat → Nat
  | 0 => 0
  | k + 1 => bK T s i k + cond (tCd T s k (tEv T i) (tEv T i)) (2 ^ k) 0
def bN (T : Tx) (s i : Nat) : Nat := bK T s i (tNt T s)
theorem bK_lt (T : Tx) (s i : Nat) : ∀ k, bK T s i k < 2 ^ k
  | 0 => Nat.zero_lt_one
  | k + 1 => by
    have h := bK_lt T s i k
    have e : 2 ^ (k + 1) = 2 ^ k + 2 ^ k := by rw [Nat.pow_succ]; omega
    unfold bK
    rw [e]
    cases tCd T s k (tEv T i) (tEv T i)
    · show bK T s i k + 0 < _
      omega
    · show bK T s i k + 2 ^ k < _
      omega
theorem bN_lt {T : Tx} (h : wfT T) {s : Nat} (hs : s < 5) (i : Nat) : bN T s i < 256 := by
  have h1 := bK_lt T s i (tNt T s)
  have h2 : 2 ^ tNt T s ≤ 2 ^ 8 := Nat.pow_le_pow_right (by decide) (h.2.2.2.1 s hs)
  unfold bN
  omega
