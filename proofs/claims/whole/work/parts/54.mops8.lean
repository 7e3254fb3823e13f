/-! the reference: rows, row -/
def agZ (LI LA LB : List Nat) (M M' : St) : Prop := (∀ k, k ∉ LI → gI M' 0 k = gI M 0 k) ∧ (∀ k, k ∉ LA → gA M' 0 k = gA M 0 k) ∧ (∀ k, k ∉ LB → gB M' 0 k = gB M 0 k)
theorem agZ.rf {LI LA LB : List Nat} (M : St) : agZ LI LA LB M M := ⟨fun _ _ => rfl, fun _ _ => rfl, fun _ _ => rfl⟩
theorem agZ.tr {LI LA LB : List Nat} {A B C : St} (h1 : agZ LI LA LB A B) (h2 : agZ LI LA LB B C) : agZ LI LA LB A C := ⟨fun k hk => (h2.1 k hk).trans (h1.1 k hk), fun k hk => (h2.2.1 k hk).trans (h1.2.1 k hk), fun k hk => (h2.2.2 k hk).trans (h1.2.2 k hk)⟩
theorem agZ.wk {LI LA LB LI' LA' LB' : List Nat} {A B : St} (h : agZ LI LA LB A B) (h1 : ∀ k, k ∈ LI → k ∈ LI') (h2 : ∀ k, k ∈ LA → k ∈ LA') (h3 : ∀ k, k ∈ LB → k ∈ LB') : agZ LI' LA' LB' A B := ⟨fun k hk => h.1 k (fun q => hk (h1 k q)), fun k hk => h.2.1 k (fun q => hk (h2 k q)), fun k hk => h.2.2 k (fun q => hk (h3 k q))⟩
theorem agY.Z {LI LA LB LI' LA' : List Nat} {A B : St} (h : agY LI LA A B) (h1 : ∀ k, k ∈ LI → k ∈ LI') (h2 : ∀ k, k ∈ LA → k ∈ LA') : agZ LI' LA' LB A B := ⟨fun k hk => h.1 k (fun q => hk (h1 k q)), fun k hk => h.2.1 k (fun q => hk (h2 k q)), fun k _ => by rw [h.2.2.1]⟩
theorem agX.Z {L LI LA LB : List Nat} {A B : St} (h : agX L A B) (h2 : ∀ k, k ∈ L → k ∈ LA) : agZ LI LA LB A B := h.Y.Z (fun k q => absurd q (List.not_mem_nil)) h2
theorem agZ.pI (M : St) (k : Nat) (v : Int32) {LI LA LB : List Nat} (hk : k ∈ LI) : agZ LI LA LB M (pI M 0 k v) := ⟨fun q hq => by rw [mb_II, if_neg]; intro z; exact hq (z.2 ▸ hk), fun _ _ => rfl, fun _ _ => rfl⟩
theorem agZ.pA (M : St) (k j : Nat) (v : Int32) {LI LA LB : List Nat} (hk : k ∈ LA) : agZ LI LA LB M (pA M 0 k j v) := ⟨fun _ _ => rfl, (agX.put M k j v hk).2.2.2, fun _ _ => rfl⟩
theorem agZ.pB (M : St) (k j : Nat) (v : Int64) {LI LA LB : List Nat} (hk : k ∈ LB) : agZ LI LA LB M (pB M 0 k j v) := by
  refine ⟨fun _ _ => rfl, fun _ _ => rfl, fun q hq => ?_⟩
  funext c
  rw [mb_BB, if_neg]
  intro z
  exact hq (z.2.1 ▸ hk)
theorem agZ.toT {LI LA LB : List Nat} {A B : St} (h : agZ LI LA LB A B) (h1 : 18 ∉ LI) (hL : ∀ q ∈ tW, q.1 ∉ LA) (lv : Nat) : agT lv A B := ⟨h.1 18 h1, fun q hq j _ => by rw [h.2.1 q.1 (hL q hq)]⟩
theorem mInv.az {T : Tx} {on tn : Nat} {lg : List Nat} {tb : Nat → Int32} {pl : Int32} {M M' : St} {LI LA LB : List Nat} (h : mInv T on lg tn tb pl M) (a : agZ LI LA LB M M') (h1 : ∀ k ∈ [2, 17, 18, 44, 52, 53, 54, 57, 58], k ∉ LI) (h2 : ∀ k ∈ [1, 20, 22, 23, 25, 26, 27, 28, 29, 30, 32, 33, 34, 35, 36, 37, 39, 40, 45, 46, 47, 48, 55, 56, 59], k ∉ LA) (h3 : 9 ∉ LB) : mInv T on lg tn tb pl M' := by
  obtain ⟨hw, ⟨lv, hM, hh, he⟩, ho, hb, hd, hs, ht, hp, hl, hk⟩ := h
  have aT : agT lv M M' := a.toT (h1 18 (by decide)) (by
    intro q hq
    refine h2 q.1 ?_
    revert q
    decide) lv
  refine ⟨hw, ⟨lv, hM.ag hw aT, hh.ag aT, he.ag aT⟩, ⟨?_, ho.2⟩, ⟨?_, ?_⟩, ?_, ⟨?_, ?_, ?_, ?_⟩, ⟨ht.1, ?_, ?_⟩, ?_, ⟨hl.1, ?_, ?_⟩, ?_⟩
  · rw [a.1 52 (h1 52 (by decide))]; exact ho.1
  · rw [a.1 44 (h1 44 (by decide))]; exact hb.1
  · rw [a.2.1 46 (h2 46 (by decide)), a.2.1 47 (h2 47 (by decide)), a.2.1 48 (h2 48 (by decide))]; exact hb.2
  · unfold SD; rw [a.2.1 45 (h2 45 (by decide))]; exact hd
  · rw [a.1 53 (h1 53 (by decide))]; exact hs.1
  · rw [a.1 54 (h1 54 (by decide))]; exact hs.2.1
  · rw [a.1 57 (h1 57 (by decide))]; exact hs.2.2.1
  · rw [a.2.1 55 (h2 55 (by decide)), a.2.1 56 (h2 56 (by decide))]; exact hs.2.2.2
  · rw [a.1 2 (h1 2 (by decide))]; exact ht.2.1
  · rw [a.2.1 1 (h2 1 (by decide))]; exact ht.2.2
  · rw [a.1 17 (h1 17 (by decide))]; exact hp
  · rw [a.1 58 (h1 58 (by decide))]; exact hl.2.1
  · rw [a.2.1 59 (h2 59 (by decide))]; exact hl.2.2
  · unfold KY
    rw [a.2.2 9 h3, a.1 52 (h1 52 (by decide))]
    exact hk
/-- do all next laws hold of j behind i -/
def alK (T : Tx) (i j : Nat) : Nat → Bool
  | 0 => true
  | k + 1 => alK T i j k && tCd T 3 k (tEv T j) (tEv T i)
theorem alK_f (T : Tx) (i j : Nat) {k n : Nat} (h : k ≤ n) (hf : alK T i j k = false) : alK T i j n = false := by
  induction h with
  | refl => exact hf
  | step _ ih => show (alK T i j _ && _) = false; rw [ih]; rfl
def flw (T : Tx) (on a b : Nat) : Bool := alK T ((lwS T on).getD a 0) ((lwS T on).getD b 0) (tNt T 3)
def suN (f : Nat → Nat) : Nat → Nat
  | 0 => 0
  | n + 1 => suN f n + f n
theorem suN_le {f : Nat → Nat} {c : Nat} (h : ∀ n, f n ≤ c) : ∀ n, suN f n ≤ c * n
  | 0 => Nat.zero_le _
  | n + 1 => by
    have h1 := suN_le h n
    have h2 := h n
    show suN f n + f n ≤ c * (n + 1)
    rw [Nat.mul_add]
    omega
def wyN (T : Tx) (on : Nat) : Nat → Nat → Nat
  | 0, _ => 1
  | n + 1, a => suN (fun b => cond (flw T on a b) (wyN T on n b) 0) (lwS T on).length
theorem wy_le {T : Tx} {on : Nat} (hl : (lwS T on).length ≤ 64) : ∀ n a, wyN T on n a ≤ 64 ^ n
  | 0, a => Nat.le_refl 1
  | n + 1, a => by
    have h1 : ∀ b, cond (flw T on a b) (wyN T on n b) 0 ≤ 64 ^ n := by
      intro b
      cases flw T on a b
      · exact Nat.zero_le _
      · exact wy_le hl n b
    have h2 := suN_le h1 (lwS T on).length
    have h3 : 64 ^ n * (lwS T on).length ≤ 64 ^ n * 64 := Nat.mul_le_mul_left _ hl
    show suN _ _ ≤ 64 ^ (n + 1)
    rw [Nat.pow_succ]
    exact Nat.le_trans h2 h3
theorem wy_lt {T : Tx} {on : Nat} (hl : (lwS T on).length ≤ 64) {n : Nat} (hn : n < 10) (a : Nat) : wyN T on n a < 2 ^ 63 := by
  have h1 := wy_le hl n a
  have h2 : 64 ^ n ≤ 64 ^ 9 := Nat.pow_le_pow_right (by decide) (by omega)
  have h3 : (64 : Nat) ^ 9 < 2 ^ 63 := by decide
  omega
def rwIn (al : Nat → Bool) (w : Nat → Nat) (left : Nat) : Nat → Nat × Option Nat
  | 0 => (left, none)
  | b + 1 => match (rwIn al w left b).2 with
    | some x => ((rwIn al w left b).1, some x)
    | none => cond (al b) (if w b ≤ (rwIn al w left b).1 then ((rwIn al w left b).1 - w b, none) else ((rwIn al w left b).1, some b)) ((rwIn al w left b).1, none)
theorem rwIn_s {al : Nat → Bool} {w : Nat → Nat} {left b x : Nat} (h : (rwIn al w left b).2 = some x) : ∀ n, b ≤ n → rwIn al w left n = rwIn al w left b := by
  intro n hn
  induction hn with
  | refl => rfl
  | @step m hm ih =>
    have e : (rwIn al w left m).2 = some x := by rw [ih]; exact h
    show (match (rwIn al w left m).2 with | some x => ((rwIn al w left m).1, some x) | none => _) = _
    rw [e]
    dsimp only
    rw [← e]
    exact ih
theorem rwIn_l (al : Nat → Bool) (w : Nat → Nat) (left : Nat) : ∀ b, (rwIn al w left b).1 ≤ left ∧ ∀ x, (rwIn al w left b).2 = some x → x < b
  | 0 => ⟨Nat.le_refl _, fun x h => (by cases h)⟩
  | b + 1 => by
    obtain ⟨h1, h2⟩ := rwIn_l al w left b
    have e : rwIn al w left (b + 1) = (match (rwIn al w left b).2 with | some x => ((rwIn al w left b).1, some x) | none => cond (al b) (if w b ≤ (rwIn al w left b).1 then ((rwIn al w left b).1 - w b, none) else ((rwIn al w left b).1, some b)) ((rwIn al w left b).1, none)) := rfl
    rw [e]
    cases hx : (rwIn al w left b).2 with
    | some x => exact ⟨h1, fun y hy => (by cases hy; have := h2 x hx; omega)⟩
    | none =>
      dsimp only
      cases al b with
      | false => exact ⟨h1, fun y hy => (by cases hy)⟩
      | true =>
        dsimp only [cond_true]
        by_cases c : w b ≤ (rwIn al w left b).1
        · rw [if_pos c]
          exact ⟨by dsimp only; omega, fun y hy => (by cases hy)⟩
        · rw [if_neg c]
          exact ⟨h1, fun y hy => (by cases hy; omega)⟩
def alO (T : Tx) (on : Nat) (la : Option Nat) (b : Nat) : Bool := match la with
  | none => true
  | some a => flw T on a b
def rwTo (T : Tx) (on L r : Nat) : Nat → Option (Nat × Option Nat)
  | 0 => some (r, none)
  | i + 1 => match rwTo T on L r i with
    | none => none
    | some q => match (rwIn (alO T on q.2) (wyN T on (L - 1 - i)) q.1 (lwS T on).length).2 with
      | none => none
      | some b => some ((rwIn (alO T on q.2) (wyN T on (L - 1 - i)) q.1 (lwS T on).length).1, some b)
theorem rwTo_n {T : Tx} {on L r i n : Nat} (h : i ≤ n) (hn : rwTo T on L r i = none) : rwTo T on L r n = none := by
  induction h with
  | refl => exact hn
  | step _ ih => show (match rwTo T on L r _ with | none => none | some q => _) = none; rw [ih]
theorem rwTo_l (T : Tx) (on L r : Nat) : ∀ i q, rwTo T on L r i = some q → q.1 ≤ r ∧ ∀ x, q.2 = some x → x < (lwS T on).length
  | 0, q, h => by
    cases h
    exact ⟨Nat.le_refl _, fun x hx => (by cases hx)⟩
  | i + 1, q, h => by
    have e : rwTo T on L r (i + 1) = (match rwTo T on L r i with | none => none | some q => match (rwIn (alO T on q.2) (wyN T on (L - 1 - i)) q.1 (lwS T on).length).2 with | none => none | some b => some ((rwIn (alO T on q.2) (wyN T on (L - 1 - i)) q.1 (lwS T on).length).1, some b)) := rfl
    rw [e] at h
    cases hp : rwTo T on L r i with
    | none => rw [hp] at h; cases h
    | some p =>
      rw [hp] at h
      dsimp only at h
      have h1 := (rwTo_l T on L r i p hp).1
      obtain ⟨h2, h3⟩ := rwIn_l (alO T on p.2) (wyN T on (L - 1 - i)) p.1 (lwS T on).length
      cases hb : (rwIn (alO T on p.2) (wyN T on (L - 1 - i)) p.1 (lwS T on).length).2 with
      | none => rw [hb] at h; cases h
      | some b =>
        rw [hb] at h
        cases h
        exact ⟨by dsimp only; omega, fun x hx => (by cases hx; exact h3 b hb)⟩
def spRows (T : Tx) (on : Nat) (x : Int32) : Int64 := if x < 1 then -1 else if 10 < x then -1 else if (lwS T on).length < 1 then -1 else if (lwS T on).length ≤ 64 then lN (suN (wyN T on (x.toNatClampNeg - 1)) (lwS T on).length) else -1
def spRow (T : Tx) (on : Nat) (x : Int32) (r : Int64) (k : Int32) : Int32 := if r < 0 then -1 else if k < 0 then -1 else if x ≤ k then -1 else if x < 1 then -1 else if 10 < x then -1 else if (lwS T on).length < 1 then -1 else if (lwS T on).length ≤ 64 then (match rwTo T on x.toNatClampNeg r.toInt.toNat (k.toNatClampNeg + 1) with
  | none => -1
  | some q => oI q.2) else -1
section MO8
variable {T : Tx} {on tn : Nat} {lg : List Nat} {tb : Nat → Int32} {pl : Int32} {M : St}
theorem l64 : (64 : Int32) = nI 64 := rfl
theorem m_olds (h : mInv T on lg tn tb pl M) {a : Nat} (ha : a < (lwS T on).length) (x1 : Int32) : ∃ M', wh (un2 (Model_counts_l42 x1 (nI a))) (M, (0 : Int32)) = some M' ∧ agX [50] M M' ∧ ∀ f, f < tNf T → gA M' 0 50 f = tEv T ((lwS T on).getD a 0) f := by
  have hw := h.1
  have n6 := hw.1
  have n1 := hw.2.2.1
  have hlen := lwS_len hw on
  have hx := lwS_lt (get_some ha)
  have key := wh_ix (f := un2 (Model_counts_l42 x1 (nI a))) (s := (M, (0 : Int32))) (tNf T) (fun j s => s.2 = nI j ∧ agX [50] M s.1 ∧ ∀ f, f < j → gA s.1 0 50 f = tEv T ((lwS T on).getD a 0) f) (fun M' => agX [50] M M' ∧ ∀ f, f < tNf T → gA M' 0 50 f = tEv T ((lwS T on).getD a 0) f) ⟨rfl, agX.rf M, fun f hf => absurd hf (Nat.not_lt_zero f)⟩ ?_ ?_
  · exact key
  · intro j s hj hI
    obtain ⟨M1, x2⟩ := s
    obtain ⟨e1, a1, v1⟩ := hI
    dsimp only at e1 a1 v1
    subst e1
    have h1 := h.az (a1.Z (LI := []) (LA := [50]) (LB := []) (fun _ q => q)) (by decide) (by decide) (by decide)
    obtain ⟨-, ⟨lv, hM1, -, -⟩, -, -, hd1, hs1, -⟩ := h1
    have hlv := hM1.1
    left
    refine ⟨(pA M1 0 50 j (nI (tVa T ((lwS T on).getD a 0) j)), nI (j + 1)), ?_, rfl, a1.tr (agX.put M1 50 j _ (by decide)), ?_⟩
    · show Model_counts_l42 x1 (nI a) M1 (nI j) = _
      unfold Model_counts_l42
      rw [hM1.2.1, mb_in (by omega) (by decide), mb_gd, mb_cl (by omega), hM1.2.2.1, if_neg (by rw [mb_le (by omega) (by omega)]; omega), mb_in (by omega) (by decide), mb_gd, mb_cl (by omega), (hs1.2.2.2 a _ (get_some ha)).1, m_valueOf hw hM1 hd1 (by omega) hj, mb_bd, mb_in (by omega) (by decide), mb_gd, mb_nm, mb_nm, mb_cl (by omega), nI_1]
    · intro f hf
      rw [mb_AA]
      by_cases e : f = j
      · rw [if_pos ⟨rfl, rfl, e⟩, e]; rfl
      · rw [if_neg (fun q => e q.2.2)]; exact v1 f (by omega)
  · intro s hI
    obtain ⟨M1, x2⟩ := s
    obtain ⟨e1, a1, v1⟩ := hI
    dsimp only at e1 a1 v1
    subst e1
    have h1 := h.az (a1.Z (LI := []) (LA := [50]) (LB := []) (fun _ q => q)) (by decide) (by decide) (by decide)
    obtain ⟨-, ⟨lv, hM1, -, -⟩, -⟩ := h1
    have hlv := hM1.1
    refine ⟨M1, ?_, a1, v1⟩
    show Model_counts_l42 x1 (nI a) M1 (nI (tNf T)) = _
    unfold Model_counts_l42
    rw [hM1.2.1, mb_in (by omega) (by decide), mb_gd, mb_cl (by omega), hM1.2.2.1, if_pos (by rw [mb_le (by omega) (by omega)]; omega)]
theorem m_nexts (h : mInv T on lg tn tb pl M) {i j : Nat} (hn : ∀ f, f < tNf T → gA M 0 49 f = tEv T j f) (ho : ∀ f, f < tNf T → gA M 0 50 f = tEv T i f) (x1 x2 x3 : Int32) : ∃ M', wh (un3 (Model_counts_l104 x1 x2 x3)) (M, (1 : Int32), (0 : Int32)) = some (M', b2i (alK T i j (tNt T 3))) ∧ agX [51] M M' := by
  have hw := h.1
  have n8 := hw.2.2.2.1 3 (by decide)
  have key := wh_ix (f := un3 (Model_counts_l104 x1 x2 x3)) (s := (M, (1 : Int32), (0 : Int32))) (tNt T 3) (fun k q => q.2.1 = b2i (alK T i j k) ∧ q.2.2 = nI k ∧ agX [51] M q.1) (fun r => r.2 = b2i (alK T i j (tNt T 3)) ∧ agX [51] M r.1) ⟨rfl, rfl, agX.rf M⟩ ?_ ?_
  · obtain ⟨⟨M', v⟩, h1, h2, h3⟩ := key
    dsimp only at h2 h3
    subst h2
    exact ⟨M', h1, h3⟩
  · intro k q hk hI
    obtain ⟨M1, y2, y3⟩ := q
    obtain ⟨e1, e2, a1⟩ := hI
    dsimp only at e1 e2 a1
    subst e1 e2
    have h1 := h.az (a1.Z (LI := []) (LA := [51]) (LB := []) (fun _ q => q)) (by decide) (by decide) (by decide)
    obtain ⟨-, ⟨lv, hM1, hh1, -⟩, -⟩ := h1
    cases hc : alK T i j k with
    | false =>
      right
      refine ⟨(M1, b2i false), ?_, ?_, a1⟩
      · show Model_counts_l104 x1 x2 x3 M1 (b2i false) (nI k) = _
        unfold Model_counts_l104
        rw [show f_Model_tellsOf M1 3 = some (nI (tNt T 3)) from m_tellsOf hM1 (s := 3) (by decide), mb_bd, if_neg (by rw [mb_le (by omega) (by omega)]; omega), if_pos (by rfl)]
      · show b2i false = _
        rw [alK_f T i j (by omega) hc]
    | true =>
      left
      obtain ⟨M2, h2, a2⟩ := hh1 M1 (agT.rf lv M1) 3 k (by decide) hk
      have ec : tCd T 3 k (gA M1 0 49) (gA M1 0 50) = tCd T 3 k (tEv T j) (tEv T i) := hw.2.2.2.2.2.1 3 k (by decide) hk _ _ _ _ (fun f hf => by rw [a1.2.2.2 49 (by decide)]; exact hn f hf) (fun _ f hf => by rw [a1.2.2.2 50 (by decide)]; exact ho f hf)
      rw [ec] at h2
      refine ⟨(M2, b2i (tCd T 3 k (tEv T j) (tEv T i)), nI (k + 1)), ?_, ?_, rfl, a1.tr a2⟩
      · show Model_counts_l104 x1 x2 x3 M1 (b2i true) (nI k) = _
        unfold Model_counts_l104
        rw [show f_Model_tellsOf M1 3 = some (nI (tNt T 3)) from m_tellsOf hM1 (s := 3) (by decide), mb_bd, if_neg (by rw [mb_le (by omega) (by omega)]; omega), if_neg (by decide), show f_Model_condOf M1 3 (nI k) = _ from m_condOf hM1 3 k, mb_bd, h2, mb_bd2, mb_nm, nI_1]
      · show _ = b2i (alK T i j k && tCd T 3 k (tEv T j) (tEv T i))
        rw [hc]
        rfl
  · intro q hI
    obtain ⟨M1, y2, y3⟩ := q
    obtain ⟨e1, e2, a1⟩ := hI
    dsimp only at e1 e2 a1
    subst e1 e2
    have h1 := h.az (a1.Z (LI := []) (LA := [51]) (LB := []) (fun _ q => q)) (by decide) (by decide) (by decide)
    obtain ⟨-, ⟨lv, hM1, hh1, -⟩, -⟩ := h1
    refine ⟨(M1, b2i (alK T i j (tNt T 3))), ?_, rfl, a1⟩
    show Model_counts_l104 x1 x2 x3 M1 _ (nI (tNt T 3)) = _
    unfold Model_counts_l104
    rw [show f_Model_tellsOf M1 3 = some (nI (tNt T 3)) from m_tellsOf hM1 (s := 3) (by decide), mb_bd, if_pos (by rw [mb_le (by omega) (by omega)]; omega)]
def FW (T : Tx) (on a b : Nat) (S : St) : Prop := ∀ a' b', b' < (lwS T on).length → (a' < a ∨ (a' = a ∧ b' < b)) → gA S 0 65 (64 * a' + b') = b2i (flw T on a' b')
theorem nar_b (b : Bool) : vp_nar .boolean (b2i b) = b2i b := by cases b <;> decide
theorem m_fw1 (h : mInv T on lg tn tb pl M) (hl : (lwS T on).length ≤ 64) {a : Nat} (ha : a < (lwS T on).length) (ho : ∀ f, f < tNf T → gA M 0 50 f = tEv T ((lwS T on).getD a 0) f) (hf : FW T on a 0 M) (x1 : Int32) : ∃ M', wh (un2 (Model_counts_l80 x1 (nI a))) (M, (0 : Int32)) = some M' ∧ agX [49, 51, 65] M M' ∧ FW T on (a + 1) 0 M' := by
  have hw := h.1
  have n1 := hw.2.2.1
  have key := wh_ix (f := un2 (Model_counts_l80 x1 (nI a))) (s := (M, (0 : Int32))) (lwS T on).length (fun b s => s.2 = nI b ∧ agX [49, 51, 65] M s.1 ∧ FW T on a b s.1) (fun M' => agX [49, 51, 65] M M' ∧ FW T on (a + 1) 0 M') ⟨rfl, agX.rf M, hf⟩ ?_ ?_
  · exact key
  · intro b s hb hI
    obtain ⟨M1, x2⟩ := s
    obtain ⟨e1, a1, v1⟩ := hI
    dsimp only at e1 a1 v1
    subst e1
    have h1 := h.az (a1.Z (LI := []) (LA := [49, 51, 65]) (LB := []) (fun _ q => q)) (by decide) (by decide) (by decide)
    obtain ⟨-, ⟨lv, hM1, -, -⟩, -, -, hd1, hs1, -⟩ := id h1
    have hx := lwS_lt (get_some hb)
    obtain ⟨M2, h2, a2, v2⟩ := m_looksAt hw hM1 hd1 (show (lwS T on).getD b 0 < 32768 by omega)
    have h2' := h1.az (a2.Z (LI := []) (LA := [49]) (LB := []) (fun _ q => q)) (by decide) (by decide) (by decide)
    obtain ⟨M3, h3, a3⟩ := m_nexts h2' (i := (lwS T on).getD a 0) v2 (fun f hf => by rw [a2.2.2.2 50 (by decide), a1.2.2.2 50 (by decide)]; exact ho f hf) x1 (nI a) (nI b)
    left
    refine ⟨(pA M3 0 65 (64 * a + b) (b2i (flw T on a b)), nI (b + 1)), ?_, rfl, a1.tr ((a2.wk (by decide)).tr ((a3.wk (by decide)).tr (agX.put M3 65 _ _ (by decide)))), ?_⟩
    · show Model_counts_l80 x1 (nI a) M1 (nI b) = _
      unfold Model_counts_l80 Model_counts_j138_l80
      rw [hs1.2.1, if_neg (by rw [mb_le (by omega) (by omega)]; omega), mb_in (by omega) (by decide), mb_gd, mb_cl (by omega), (hs1.2.2.2 b _ (get_some hb)).1, h2, mb_bd, h3, mb_bd2, l64, pk_mul, nI_add, mb_in (by omega) (by decide), mb_gd, mb_cl (by omega), nar_b, mb_nm, nI_1, mb_nm]
      rfl
    · intro a' b' hb' hab
      show gA (pA M3 0 65 _ _) 0 65 _ = _
      rw [mb_AA]
      by_cases e : 64 * a' + b' = 64 * a + b
      · have ea : a' = a := by omega
        have eb : b' = b := by omega
        rw [if_pos ⟨rfl, rfl, e⟩, ea, eb]
      · rw [if_neg (fun q => e q.2.2), a3.2.2.2 65 (by decide), a2.2.2.2 65 (by decide)]
        exact v1 a' b' hb' (by
          rcases hab with q | q
          · exact Or.inl q
          · right
            refine ⟨q.1, ?_⟩
            have : b' ≠ b := fun z => e (by rw [q.1, z])
            omega)
  · intro s hI
    obtain ⟨M1, x2⟩ := s
    obtain ⟨e1, a1, v1⟩ := hI
    dsimp only at e1 a1 v1
    subst e1
    have h1 := h.az (a1.Z (LI := []) (LA := [49, 51, 65]) (LB := []) (fun _ q => q)) (by decide) (by decide) (by decide)
    obtain ⟨-, -, -, -, -, hs1, -⟩ := h1
    refine ⟨M1, ?_, a1, fun a' b' hb' hab => v1 a' b' hb' (by omega)⟩
    show Model_counts_l80 x1 (nI a) M1 (nI (lwS T on).length) = _
    unfold Model_counts_l80
    rw [hs1.2.1, if_pos (by rw [mb_le (by omega) (by omega)]; omega)]
theorem m_fw (h : mInv T on lg tn tb pl M) (hl : (lwS T on).length ≤ 64) (x1 : Int32) : ∃ M', wh (un2 (Model_counts_l32 x1)) (M, (0 : Int32)) = some M' ∧ agX [49, 50, 51, 65] M M' ∧ FW T on (lwS T on).length 0 M' := by
  have hw := h.1
  have key := wh_ix (f := un2 (Model_counts_l32 x1)) (s := (M, (0 : Int32))) (lwS T on).length (fun a s => s.2 = nI a ∧ agX [49, 50, 51, 65] M s.1 ∧ FW T on a 0 s.1) (fun M' => agX [49, 50, 51, 65] M M' ∧ FW T on (lwS T on).length 0 M') ⟨rfl, agX.rf M, fun a' b' _ q => by omega⟩ ?_ ?_
  · exact key
  · intro a s ha hI
    obtain ⟨M1, x2⟩ := s
    obtain ⟨e1, a1, v1⟩ := hI
    dsimp only at e1 a1 v1
    subst e1
    have h1 := h.az (a1.Z (LI := []) (LA := [49, 50, 51, 65]) (LB := []) (fun _ q => q)) (by decide) (by decide) (by decide)
    obtain ⟨-, -, -, -, -, hs1, -⟩ := id h1
    obtain ⟨M2, h2, a2, v2⟩ := m_olds h1 ha x1
    have h2' := h1.az (a2.Z (LI := []) (LA := [50]) (LB := []) (fun _ q => q)) (by decide) (by decide) (by decide)
    obtain ⟨M3, h3, a3, v3⟩ := m_fw1 h2' hl ha v2 (fun a' b' hb' q => by rw [a2.2.2.2 65 (by decide)]; exact v1 a' b' hb' q) x1
    left
    refine ⟨(M3, nI (a + 1)), ?_, rfl, a1.tr ((a2.wk (by decide)).tr (a3.wk (by decide))), v3⟩
    show Model_counts_l32 x1 M1 (nI a) = _
    unfold Model_counts_l32
    rw [hs1.2.1, if_neg (by rw [mb_le (by omega) (by omega)]; omega), h2, mb_bd, h3, mb_bd, nI_1, mb_nm]
  · intro s hI
    obtain ⟨M1, x2⟩ := s
    obtain ⟨e1, a1, v1⟩ := hI
    dsimp only at e1 a1 v1
    subst e1
    have h1 := h.az (a1.Z (LI := []) (LA := [49, 50, 51, 65]) (LB := []) (fun _ q => q)) (by decide) (by decide) (by decide)
    obtain ⟨-, -, -, -, -, hs1, -⟩ := h1
    refine ⟨M1, ?_, a1, v1⟩
    show Model_counts_l32 x1 M1 (nI (lwS T on).length) = _
    unfold Model_counts_l32
    rw [hs1.2.1, if_pos (by rw [mb_le (by omega) (by omega)]; omega)]
def WY (T : Tx) (on n a : Nat) (S : St) : Prop := ∀ n' a', a' < (lwS T on).length → (n' < n ∨ (n' = n ∧ a' < a)) → gB S 0 66 (64 * (n' + 1) + a') = lN (wyN T on n' a')
theorem m_ones (h : mInv T on lg tn tb pl M) (hl : (lwS T on).length ≤ 64) (x1 : Int32) : ∃ M', wh (un2 (Model_counts_l165 x1)) (M, (0 : Int32)) = some M' ∧ agZ [] [] [66] M M' ∧ WY T on 1 0 M' := by
  have hw := h.1
  have key := wh_ix (f := un2 (Model_counts_l165 x1)) (s := (M, (0 : Int32))) (lwS T on).length (fun a s => s.2 = nI a ∧ agZ [] [] [66] M s.1 ∧ WY T on 0 a s.1) (fun M' => agZ [] [] [66] M M' ∧ WY T on 1 0 M') ⟨rfl, agZ.rf M, fun a' b' _ q => by omega⟩ ?_ ?_
  · exact key
  · intro a s ha hI
    obtain ⟨M1, x2⟩ := s
    obtain ⟨e1, a1, v1⟩ := hI
    dsimp only at e1 a1 v1
    subst e1
    have h1 := h.az a1 (by decide) (by decide) (by decide)
    obtain ⟨-, -, -, -, -, hs1, -⟩ := h1
    left
    refine ⟨(pB M1 0 66 (64 + a) 1, nI (a + 1)), ?_, rfl, a1.tr (agZ.pB M1 66 _ _ (by decide)), ?_⟩
    · show Model_counts_l165 x1 M1 (nI a) = _
      unfold Model_counts_l165
      rw [hs1.2.1, if_neg (by rw [mb_le (by omega) (by omega)]; omega), l64, nI_add, mb_in (by omega) (by decide), mb_gd, mb_cl (by omega), mb_nm, nI_1, mb_nm]
    · intro n' a' ha' q
      have en : n' = 0 := by omega
      subst en
      show gB (pB M1 0 66 _ _) 0 66 _ = _
      rw [mb_BB]
      by_cases e : a' = a
      · rw [if_pos ⟨rfl, rfl, by omega⟩]; rfl
      · rw [if_neg (fun q => e (by omega))]
        exact v1 0 a' ha' (by omega)
  · intro s hI
    obtain ⟨M1, x2⟩ := s
    obtain ⟨e1, a1, v1⟩ := hI
    dsimp only at e1 a1 v1
    subst e1
    have h1 := h.az a1 (by decide) (by decide) (by decide)
    obtain ⟨-, -, -, -, -, hs1, -⟩ := h1
    refine ⟨M1, ?_, a1, fun n' a' ha' q => v1 n' a' ha' (by omega)⟩
    show Model_counts_l165 x1 M1 (nI (lwS T on).length) = _
    unfold Model_counts_l165
    rw [hs1.2.1, if_pos (by rw [mb_le (by omega) (by omega)]; omega)]
theorem m_wsum (h : mInv T on lg tn tb pl M) (hl : (lwS T on).length ≤ 64) {n a : Nat} (hn : n < 9) (ha : a < (lwS T on).length) (hf : FW T on (lwS T on).length 0 M) (hy : WY T on (n + 1) a M) (x1 : Int32) : wh (un2 (Model_counts_l212 M x1 (nI (n + 2)) (nI a))) ((0 : Int64), (0 : Int32)) = some (lN (wyN T on (n + 1) a)) := by
  obtain ⟨-, -, -, -, -, hs1, -⟩ := h
  have key := wh_ix (f := un2 (Model_counts_l212 M x1 (nI (n + 2)) (nI a))) (s := ((0 : Int64), (0 : Int32))) (lwS T on).length (fun b s => s.2 = nI b ∧ s.1 = lN (suN (fun b => cond (flw T on a b) (wyN T on n b) 0) b)) (fun r => r = lN (wyN T on (n + 1) a)) ⟨rfl, rfl⟩ ?_ ?_
  · obtain ⟨r, h1, h2⟩ := key
    rw [h1, h2]
  · intro b s hb hI
    obtain ⟨x4, x6⟩ := s
    obtain ⟨e1, e2⟩ := hI
    dsimp only at e1 e2
    subst e1 e2
    left
    refine ⟨(lN (suN (fun b => cond (flw T on a b) (wyN T on n b) 0) (b + 1)), nI (b + 1)), ?_, rfl, rfl⟩
    show Model_counts_l212 M x1 (nI (n + 2)) (nI a) _ (nI b) = _
    have e3 : nI (n + 2) - 1 = nI (n + 1) := nI_pred (n + 1)
    unfold Model_counts_l212 Model_counts_j255_l212
    rw [hs1.2.1, if_neg (by rw [mb_le (by omega) (by omega)]; omega), l64, pk_mul, nI_add, mb_in (by omega) (by decide), mb_gd, mb_cl (by omega), hf a b hb (Or.inl ha), e3, pk_mul, nI_add, mb_in (by omega) (by decide), mb_gd, mb_cl (by omega), hy n b hb (Or.inl (by omega)), lN_add, mb_nm, nI_1, mb_nm, mb_nm]
    show _ = some (Sum.inl (lN (suN (fun b => cond (flw T on a b) (wyN T on n b) 0) b + cond (flw T on a b) (wyN T on n b) 0), nI (b + 1)))
    cases flw T on a b with
    | false => rw [if_pos (by rfl)]; rfl
    | true => rw [if_neg (by decide)]; rfl
  · intro s hI
    obtain ⟨x4, x6⟩ := s
    obtain ⟨e1, e2⟩ := hI
    dsimp only at e1 e2
    subst e1 e2
    refine ⟨_, ?_, rfl⟩
    show Model_counts_l212 M x1 (nI (n + 2)) (nI a) _ (nI (lwS T on).length) = _
    unfold Model_counts_l212
    rw [hs1.2.1, if_pos (by rw [mb_le (by omega) (by omega)]; omega)]
    rfl
theorem m_wrow (h : mInv T on lg tn tb pl M) (hl : (lwS T on).length ≤ 64) {n : Nat} (hn : n < 9) (hf : FW T on (lwS T on).length 0 M) (hy : WY T on (n + 1) 0 M) (x1 : Int32) : ∃ M', wh (un2 (Model_counts_l198 x1 (nI (n + 2)))) (M, (0 : Int32)) = some M' ∧ agZ [] [] [66] M M' ∧ WY T on (n + 2) 0 M' := by
  have key := wh_ix (f := un2 (Model_counts_l198 x1 (nI (n + 2)))) (s := (M, (0 : Int32))) (lwS T on).length (fun a s => s.2 = nI a ∧ agZ [] [] [66] M s.1 ∧ WY T on (n + 1) a s.1) (fun M' => agZ [] [] [66] M M' ∧ WY T on (n + 2) 0 M') ⟨rfl, agZ.rf M, hy⟩ ?_ ?_
  · exact key
  · intro a s ha hI
    obtain ⟨M1, x2⟩ := s
    obtain ⟨e1, a1, v1⟩ := hI
    dsimp only at e1 a1 v1
    subst e1
    have h1 := h.az a1 (by decide) (by decide) (by decide)
    obtain ⟨-, -, -, -, -, hs1, -⟩ := id h1
    have h2 := m_wsum h1 hl hn ha (fun a' b' hb' q => by rw [a1.2.1 65 (by decide)]; exact hf a' b' hb' q) v1 x1
    left
    refine ⟨(pB M1 0 66 (64 * (n + 2) + a) (lN (wyN T on (n + 1) a)), nI (a + 1)), ?_, rfl, a1.tr (agZ.pB M1 66 _ _ (by decide)), ?_⟩
    · show Model_counts_l198 x1 (nI (n + 2)) M1 (nI a) = _
      unfold Model_counts_l198
      rw [hs1.2.1, if_neg (by rw [mb_le (by omega) (by omega)]; omega), h2, mb_bd, l64, pk_mul, nI_add, mb_in (by omega) (by decide), mb_gd, mb_cl (by omega), mb_nm, nI_1, mb_nm]
    · intro n' a' ha' q
      show gB (pB M1 0 66 _ _) 0 66 _ = _
      rw [mb_BB]
      by_cases e : 64 * (n' + 1) + a' = 64 * (n + 2) + a
      · have en : n' = n + 1 := by omega
        have ea : a' = a := by omega
        rw [if_pos ⟨rfl, rfl, e⟩, en, ea]
      · rw [if_neg (fun q => e q.2.2)]
        exact v1 n' a' ha' (by
          rcases q with q | q
          · exact Or.inl q
          · right
            refine ⟨q.1, ?_⟩
            have : a' ≠ a := fun z => e (by rw [q.1, z])
            omega)
  · intro s hI
    obtain ⟨M1, x2⟩ := s
    obtain ⟨e1, a1, v1⟩ := hI
    dsimp only at e1 a1 v1
    subst e1
    have h1 := h.az a1 (by decide) (by decide) (by decide)
    obtain ⟨-, -, -, -, -, hs1, -⟩ := h1
    refine ⟨M1, ?_, a1, fun n' a' ha' q => v1 n' a' ha' (by omega)⟩
    show Model_counts_l198 x1 (nI (n + 2)) M1 (nI (lwS T on).length) = _
    unfold Model_counts_l198
    rw [hs1.2.1, if_pos (by rw [mb_le (by omega) (by omega)]; omega)]
theorem m_wrows (h : mInv T on lg tn tb pl M) (hl : (lwS T on).length ≤ 64) {L : Nat} (hL : L < 10) (hf : FW T on (lwS T on).length 0 M) (hy : WY T on 1 0 M) : ∃ M', wh (un2 (Model_counts_l191 (nI (L + 1)))) (M, (2 : Int32)) = some M' ∧ agZ [] [] [66] M M' ∧ WY T on (L + 1) 0 M' := by
  have key := wh_ix (f := un2 (Model_counts_l191 (nI (L + 1)))) (s := (M, (2 : Int32))) L (fun n s => s.2 = nI (n + 2) ∧ agZ [] [] [66] M s.1 ∧ WY T on (n + 1) 0 s.1) (fun M' => agZ [] [] [66] M M' ∧ WY T on (L + 1) 0 M') ⟨rfl, agZ.rf M, hy⟩ ?_ ?_
  · exact key
  · intro n s hn hI
    obtain ⟨M1, x2⟩ := s
    obtain ⟨e1, a1, v1⟩ := hI
    dsimp only at e1 a1 v1
    subst e1
    have h1 := h.az a1 (by decide) (by decide) (by decide)
    obtain ⟨M2, h2, a2, v2⟩ := m_wrow h1 hl (show n < 9 by omega) (fun a' b' hb' q => by rw [a1.2.1 65 (by decide)]; exact hf a' b' hb' q) v1 (nI (L + 1))
    left
    refine ⟨(M2, nI (n + 3)), ?_, rfl, a1.tr a2, v2⟩
    show Model_counts_l191 (nI (L + 1)) M1 (nI (n + 2)) = _
    unfold Model_counts_l191
    rw [if_neg (by rw [mb_lt (by omega) (by omega)]; omega), h2, mb_bd, nI_1, mb_nm]
  · intro s hI
    obtain ⟨M1, x2⟩ := s
    obtain ⟨e1, a1, v1⟩ := hI
    dsimp only at e1 a1 v1
    subst e1
    refine ⟨M1, ?_, a1, v1⟩
    show Model_counts_l191 (nI (L + 1)) M1 (nI (L + 2)) = _
    unfold Model_counts_l191
    rw [if_pos (by rw [mb_lt (by omega) (by omega)]; omega)]
theorem m_counts (h : mInv T on lg tn tb pl M) (hl0 : 1 ≤ (lwS T on).length) (hl : (lwS T on).length ≤ 64) {L : Nat} (hL : L < 10) : ∃ M', f_Model_counts M (nI (L + 1)) = some (1, M') ∧ mInv T on lg tn tb pl M' ∧ FW T on (lwS T on).length 0 M' ∧ WY T on (L + 1) 0 M' := by
  obtain ⟨-, -, -, -, -, hs, -⟩ := id h
  obtain ⟨M1, h1, a1, v1⟩ := m_fw h hl (nI (L + 1))
  have i1 := h.az (a1.Z (LI := []) (LA := [49, 50, 51, 65]) (LB := []) (fun _ q => q)) (by decide) (by decide) (by decide)
  obtain ⟨M2, h2, a2, v2⟩ := m_ones i1 hl (nI (L + 1))
  have i2 := i1.az a2 (by decide) (by decide) (by decide)
  obtain ⟨M3, h3, a3, v3⟩ := m_wrows i2 hl hL (fun a' b' hb' q => by rw [a2.2.1 65 (by decide)]; exact v1 a' b' hb' q) v2
  refine ⟨M3, ?_, i2.az a3 (by decide) (by decide) (by decide), fun a' b' hb' q => by rw [a3.2.1 65 (by decide), a2.2.1 65 (by decide)]; exact v1 a' b' hb' q, v3⟩
  unfold f_Model_counts
  rw [hs.2.1, if_neg (by rw [l1, mb_lt (by omega) (by omega)]; omega), if_neg (by rw [show (10 : Int32) = nI 10 from rfl, mb_lt (by omega) (by omega)]; omega), if_neg (by rw [l1, mb_lt (by omega) (by omega)]; omega), if_pos (by rw [l64, mb_le (by omega) (by omega)]; omega), h1, mb_bd, h2, mb_bd, h3, mb_bd]
theorem x_10 {x : Int32} (h1 : ¬ x < 1) (h2 : ¬ 10 < x) : ∃ L, L < 10 ∧ x = nI (L + 1) := by
  rcases pk_ix x (show 11 < 2 ^ 31 by decide) with q | q | ⟨j, hj, rfl⟩
  · exact absurd (Int32.lt_trans q (by decide)) h1
  · exact absurd (Int32.lt_of_lt_of_le (show (10 : Int32) < nI 11 by decide) q) h2
  · cases j with
    | zero => exact absurd (by decide) h1
    | succ L => exact ⟨L, by omega, rfl⟩
theorem m_counts0 (h : mInv T on lg tn tb pl M) {x : Int32} (hx : x < 1 ∨ 10 < x ∨ (lwS T on).length < 1 ∨ ¬ (lwS T on).length ≤ 64) : f_Model_counts M x = some (0, M) := by
  obtain ⟨hw, -, -, -, -, hs, -⟩ := id h
  have hlen := lwS_len hw on
  unfold f_Model_counts Model_counts_j28
  rw [hs.2.1]
  by_cases c1 : x < 1
  · rw [if_pos c1]
  rw [if_neg c1]
  by_cases c2 : 10 < x
  · rw [if_pos c2]
  rw [if_neg c2]
  by_cases c3 : (lwS T on).length < 1
  · rw [if_pos (by rw [l1, mb_lt (by omega) (by omega)]; exact c3)]
  rw [if_neg (by rw [l1, mb_lt (by omega) (by omega)]; exact c3)]
  rw [if_neg (by rw [l64, mb_le (by omega) (by omega)]; rcases hx with q | q | q | q <;> first | exact absurd q c1 | exact absurd q c2 | exact absurd q c3 | exact q)]
theorem mo_rows (h : mInv T on lg tn tb pl M) (x : Int32) : ∃ M', f_Model_rows M x = some (spRows T on x, M') ∧ mInv T on lg tn tb pl M' := by
  have hw := h.1
  have hlen := lwS_len hw on
  unfold f_Model_rows spRows
  by_cases c1 : x < 1
  · rw [m_counts0 h (Or.inl c1), mb_bd2, if_pos (by rfl), if_pos c1]
    exact ⟨M, rfl, h⟩
  by_cases c2 : 10 < x
  · rw [m_counts0 h (Or.inr (Or.inl c2)), mb_bd2, if_pos (by rfl), if_neg c1, if_pos c2]
    exact ⟨M, rfl, h⟩
  by_cases c3 : (lwS T on).length < 1
  · rw [m_counts0 h (Or.inr (Or.inr (Or.inl c3))), mb_bd2, if_pos (by rfl), if_neg c1, if_neg c2, if_pos c3]
    exact ⟨M, rfl, h⟩
  by_cases c4 : (lwS T on).length ≤ 64
  · obtain ⟨L, hL, rfl⟩ := x_10 c1 c2
    obtain ⟨M1, h1, i1, hf, hy⟩ := m_counts h (by omega) c4 hL
    obtain ⟨-, -, -, -, -, hs1, -⟩ := id i1
    rw [h1, mb_bd2, if_neg (by decide), if_neg c1, if_neg c2, if_neg c3, if_pos c4, mb_cl (by omega), Nat.add_sub_cancel]
    refine ⟨M1, ?_, i1⟩
    have key := wh_ix (f := un2 (Model_rows_l17 M1 (nI (L + 1)))) (s := ((0 : Int64), (0 : Int32))) (lwS T on).length (fun b s => s.2 = nI b ∧ s.1 = lN (suN (wyN T on L) b)) (fun r => r = lN (suN (wyN T on L) (lwS T on).length)) ⟨rfl, rfl⟩ ?_ ?_
    · obtain ⟨r, h1, h2⟩ := key
      rw [h1, h2, mb_bd]
    · intro b s hb hI
      obtain ⟨x4, x6⟩ := s
      obtain ⟨e1, e2⟩ := hI
      dsimp only at e1 e2
      subst e1 e2
      left
      refine ⟨(lN (suN (wyN T on L) (b + 1)), nI (b + 1)), ?_, rfl, rfl⟩
      show Model_rows_l17 M1 (nI (L + 1)) _ (nI b) = _
      unfold Model_rows_l17
      rw [hs1.2.1, if_neg (by rw [mb_le (by omega) (by omega)]; omega), l64, pk_mul, nI_add, mb_in (by omega) (by decide), mb_gd, mb_cl (by omega), hy L b hb (Or.inl (by omega)), lN_add, mb_nm, nI_1, mb_nm]
      rfl
    · intro s hI
      obtain ⟨x4, x6⟩ := s
      obtain ⟨e1, e2⟩ := hI
      dsimp only at e1 e2
      subst e1 e2
      refine ⟨_, ?_, rfl⟩
      show Model_rows_l17 M1 (nI (L + 1)) _ (nI (lwS T on).length) = _
      unfold Model_rows_l17
      rw [hs1.2.1, if_pos (by rw [mb_le (by omega) (by omega)]; omega)]
  · rw [m_counts0 h (Or.inr (Or.inr (Or.inr c4))), mb_bd2, if_pos (by rfl), if_neg c1, if_neg c2, if_neg c3, if_neg c4]
    exact ⟨M, rfl, h⟩
theorem oI_m1 (o : Option Nat) (h : ∀ x, o = some x → x < 2147483648) : (oI o = -1) = (o = none) := by
  cases o with
  | none => exact propext ⟨fun _ => rfl, fun _ => rfl⟩
  | some x => exact propext ⟨fun e => absurd e (nI_m1 (h x rfl)), fun e => (by cases e)⟩
theorem m_rowIn (h : mInv T on lg tn tb pl M) (hl : (lwS T on).length ≤ 64) {L i left : Nat} (hL : L < 10) (hi : i ≤ L) (hf : FW T on (lwS T on).length 0 M) (hy : WY T on (L + 1) 0 M) (hle : left < 2 ^ 63) {la : Option Nat} (hla : ∀ x, la = some x → x < (lwS T on).length) (x4 : Int32) : wh (un3 (Model_row_l49 M (nI (L + 1)) x4 (oI la) (nI i))) (lN left, (-1 : Int32), (0 : Int32)) = some (lN (rwIn (alO T on la) (wyN T on (L - i)) left (lwS T on).length).1, oI (rwIn (alO T on la) (wyN T on (L - i)) left (lwS T on).length).2) := by
  obtain ⟨-, -, -, -, -, hs, -⟩ := id h
  have key := wh_ix (f := un3 (Model_row_l49 M (nI (L + 1)) x4 (oI la) (nI i))) (s := (lN left, (-1 : Int32), (0 : Int32))) (lwS T on).length (fun b s => s.2.2 = nI b ∧ s.1 = lN (rwIn (alO T on la) (wyN T on (L - i)) left b).1 ∧ s.2.1 = oI (rwIn (alO T on la) (wyN T on (L - i)) left b).2) (fun r => r = (lN (rwIn (alO T on la) (wyN T on (L - i)) left (lwS T on).length).1, oI (rwIn (alO T on la) (wyN T on (L - i)) left (lwS T on).length).2)) ⟨rfl, rfl, rfl⟩ ?_ ?_
  · obtain ⟨r, h1, h2⟩ := key
    rw [h1, h2]
  · intro b s hb hI
    obtain ⟨x5, x9, x10⟩ := s
    obtain ⟨e1, e2, e3⟩ := hI
    dsimp only at e1 e2 e3
    subst e1 e2 e3
    obtain ⟨r1, r2⟩ := rwIn_l (alO T on la) (wyN T on (L - i)) left b
    have e : rwIn (alO T on la) (wyN T on (L - i)) left (b + 1) = (match (rwIn (alO T on la) (wyN T on (L - i)) left b).2 with | some x => ((rwIn (alO T on la) (wyN T on (L - i)) left b).1, some x) | none => cond (alO T on la b) (if wyN T on (L - i) b ≤ (rwIn (alO T on la) (wyN T on (L - i)) left b).1 then ((rwIn (alO T on la) (wyN T on (L - i)) left b).1 - wyN T on (L - i) b, none) else ((rwIn (alO T on la) (wyN T on (L - i)) left b).1, some b)) ((rwIn (alO T on la) (wyN T on (L - i)) left b).1, none)) := rfl
    cases hx : (rwIn (alO T on la) (wyN T on (L - i)) left b).2 with
    | some x =>
      right
      have hxb := r2 x hx
      refine ⟨(lN (rwIn (alO T on la) (wyN T on (L - i)) left b).1, oI (some x)), ?_, ?_⟩
      · show Model_row_l49 M (nI (L + 1)) x4 (oI la) (nI i) _ (oI (some x)) (nI b) = _
        unfold Model_row_l49
        rw [hs.2.1, if_neg (by rw [mb_le (by omega) (by omega)]; omega), if_neg (by rw [oI_m1 _ (fun y hy => (by cases hy; omega))]; exact fun z => (by cases z))]
      · rw [rwIn_s hx (lwS T on).length (by omega), hx]
    | none =>
      left
      rw [hx] at e
      dsimp only at e
      refine ⟨(lN (rwIn (alO T on la) (wyN T on (L - i)) left (b + 1)).1, oI (rwIn (alO T on la) (wyN T on (L - i)) left (b + 1)).2, nI (b + 1)), ?_, rfl, rfl, rfl⟩
      have w1 := wy_lt hl (show L - i < 10 by omega) b
      have eL : nI (L + 1) - nI i = nI (L - i + 1) := by rw [pk_sub (by omega)]; congr 1; omega
      have tail : ∀ (x7 : Int32), Model_row_j89_l49 M (nI (L + 1)) x4 (lN (rwIn (alO T on la) (wyN T on (L - i)) left b).1) x7 (nI i) (oI none) (nI b) = (if wyN T on (L - i) b ≤ (rwIn (alO T on la) (wyN T on (L - i)) left b).1 then some (.inl (lN ((rwIn (alO T on la) (wyN T on (L - i)) left b).1 - wyN T on (L - i) b), oI none, nI (b + 1))) else some (.inl (lN (rwIn (alO T on la) (wyN T on (L - i)) left b).1, nI b, nI (b + 1)))) := by
        intro x7
        unfold Model_row_j89_l49 Model_row_j137_l49
        rw [eL, l64, pk_mul, nI_add, mb_in (by omega) (by decide), mb_gd, mb_cl (by omega), hy (L - i) b hb (Or.inl (by omega)), nI_1, mb_gd]
        simp only [mb_nm]
        by_cases c : wyN T on (L - i) b ≤ (rwIn (alO T on la) (wyN T on (L - i)) left b).1
        · rw [if_pos c, if_pos (by rw [lg_cmp_ge, pk_lLE w1 (by omega)]; exact c), lN_sub c]
        · rw [if_neg c, if_neg (by rw [lg_cmp_ge, pk_lLE w1 (by omega)]; exact c)]
      show Model_row_l49 M (nI (L + 1)) x4 (oI la) (nI i) _ (oI none) (nI b) = _
      unfold Model_row_l49
      rw [hs.2.1, if_neg (by rw [mb_le (by omega) (by omega)]; omega), if_pos (show oI none = -1 from rfl), tail, e]
      cases la with
      | none =>
        rw [if_pos (show oI none = -1 from rfl)]
        show _ = some (Sum.inl (lN (if wyN T on (L - i) b ≤ (rwIn (alO T on none) (wyN T on (L - i)) left b).1 then ((rwIn (alO T on none) (wyN T on (L - i)) left b).1 - wyN T on (L - i) b, none) else ((rwIn (alO T on none) (wyN T on (L - i)) left b).1, some b)).1, oI (if wyN T on (L - i) b ≤ (rwIn (alO T on none) (wyN T on (L - i)) left b).1 then ((rwIn (alO T on none) (wyN T on (L - i)) left b).1 - wyN T on (L - i) b, none) else ((rwIn (alO T on none) (wyN T on (L - i)) left b).1, some b)).2, nI (b + 1)))
        by_cases c : wyN T on (L - i) b ≤ (rwIn (alO T on none) (wyN T on (L - i)) left b).1
        · rw [if_pos c, if_pos c]
        · rw [if_neg c, if_neg c]
          rfl
      | some a =>
        have ha := hla a rfl
        rw [if_neg (by rw [oI_m1 _ (fun y hy => (by cases hy; omega))]; exact fun z => (by cases z))]
        show (gd (inb (64 * nI a + nI b) 4096) <| if gA M 0 65 (64 * nI a + nI b).toNatClampNeg = 0 then _ else _) = _
        unfold Model_row_j137_l49
        rw [l64, pk_mul, nI_add, mb_in (by omega) (by decide), mb_gd, mb_cl (by omega), hf a b hb (Or.inl ha), nI_1, mb_nm]
        show _ = some (Sum.inl (lN (cond (flw T on a b) (if wyN T on (L - i) b ≤ (rwIn (alO T on (some a)) (wyN T on (L - i)) left b).1 then ((rwIn (alO T on (some a)) (wyN T on (L - i)) left b).1 - wyN T on (L - i) b, none) else ((rwIn (alO T on (some a)) (wyN T on (L - i)) left b).1, some b)) ((rwIn (alO T on (some a)) (wyN T on (L - i)) left b).1, none)).1, oI (cond (flw T on a b) (if wyN T on (L - i) b ≤ (rwIn (alO T on (some a)) (wyN T on (L - i)) left b).1 then ((rwIn (alO T on (some a)) (wyN T on (L - i)) left b).1 - wyN T on (L - i) b, none) else ((rwIn (alO T on (some a)) (wyN T on (L - i)) left b).1, some b)) ((rwIn (alO T on (some a)) (wyN T on (L - i)) left b).1, none)).2, nI (b + 1)))
        cases flw T on a b with
        | false =>
          rw [if_pos (by rfl)]
          rfl
        | true =>
          rw [if_neg (by decide)]
          dsimp only [cond_true]
          by_cases c : wyN T on (L - i) b ≤ (rwIn (alO T on (some a)) (wyN T on (L - i)) left b).1
          · rw [if_pos c, if_pos c]
          · rw [if_neg c, if_neg c]
            rfl
  · intro s hI
    obtain ⟨x5, x9, x10⟩ := s
    obtain ⟨e1, e2, e3⟩ := hI
    dsimp only at e1 e2 e3
    subst e1 e2 e3
    refine ⟨_, ?_, rfl⟩
    show Model_row_l49 M (nI (L + 1)) x4 (oI la) (nI i) _ _ (nI (lwS T on).length) = _
    unfold Model_row_l49
    rw [hs.2.1, if_pos (by rw [mb_le (by omega) (by omega)]; omega)]
theorem mo_row (h : mInv T on lg tn tb pl M) (x : Int32) (r : Int64) (k : Int32) : ∃ M', f_Model_row M x r k = some (spRow T on x r k, M') ∧ mInv T on lg tn tb pl M' := by
  have hw := h.1
  have hlen := lwS_len hw on
  unfold f_Model_row Model_row_j25 spRow
  by_cases d1 : r < 0
  · rw [if_pos (by rw [lg_cmp_lt]; exact d1), if_pos d1]
    exact ⟨M, rfl, h⟩
  rw [if_neg (by rw [lg_cmp_lt]; exact d1), if_neg d1]
  by_cases d2 : k < 0
  · rw [if_pos d2, if_pos d2]
    exact ⟨M, rfl, h⟩
  rw [if_neg d2, if_neg d2]
  by_cases d3 : x ≤ k
  · rw [if_pos d3, if_pos d3]
    exact ⟨M, rfl, h⟩
  rw [if_neg d3, if_neg d3]
  by_cases c1 : x < 1
  · rw [m_counts0 h (Or.inl c1), mb_bd2, if_pos (by rfl), if_pos c1]
    exact ⟨M, rfl, h⟩
  by_cases c2 : 10 < x
  · rw [m_counts0 h (Or.inr (Or.inl c2)), mb_bd2, if_pos (by rfl), if_neg c1, if_pos c2]
    exact ⟨M, rfl, h⟩
  by_cases c3 : (lwS T on).length < 1
  · rw [m_counts0 h (Or.inr (Or.inr (Or.inl c3))), mb_bd2, if_pos (by rfl), if_neg c1, if_neg c2, if_pos c3]
    exact ⟨M, rfl, h⟩
  by_cases c4 : (lwS T on).length ≤ 64
  · obtain ⟨L, hL, rfl⟩ := x_10 c1 c2
    obtain ⟨R, hR, rfl⟩ := pk_lOf d1
    obtain ⟨K, hK, rfl⟩ := nI_of d2
    rw [mb_le (by omega) (by omega)] at d3
    obtain ⟨M1, h1, i1, hf, hy⟩ := m_counts h (by omega) c4 hL
    rw [h1, mb_bd2, if_neg (by decide), if_neg c1, if_neg c2, if_neg c3, if_pos c4, mb_cl (by omega), mb_cl (by omega), pk_lT hR, Int.toNat_natCast]
    have key := wh_ix (f := un3 (Model_row_l36 M1 (nI (L + 1)) (nI K))) (s := (lN R, (-1 : Int32), (0 : Int32))) (K + 1) (fun i s => s.2.2 = nI i ∧ ∃ q, rwTo T on (L + 1) R i = some q ∧ s.1 = lN q.1 ∧ s.2.1 = oI q.2) (fun q => q = ((match rwTo T on (L + 1) R (K + 1) with | none => -1 | some q => oI q.2), M1)) ⟨rfl, (R, none), rfl, rfl, rfl⟩ ?_ ?_
    · obtain ⟨q, h1, h2⟩ := key
      exact ⟨M1, by rw [h1, h2], i1⟩
    · intro i s hi hI
      obtain ⟨x5, x7, x8⟩ := s
      obtain ⟨e1, q, hq, e2, e3⟩ := hI
      dsimp only at e1 e2 e3
      subst e1 e2 e3
      obtain ⟨q1, q2⟩ := rwTo_l T on (L + 1) R i q hq
      have h2 := m_rowIn i1 c4 hL (show i ≤ L by omega) hf hy (show q.1 < 2 ^ 63 by omega) q2 (nI K)
      have e : rwTo T on (L + 1) R (i + 1) = (match rwTo T on (L + 1) R i with | none => none | some q => match (rwIn (alO T on q.2) (wyN T on (L + 1 - 1 - i)) q.1 (lwS T on).length).2 with | none => none | some b => some ((rwIn (alO T on q.2) (wyN T on (L + 1 - 1 - i)) q.1 (lwS T on).length).1, some b)) := rfl
      rw [hq] at e
      dsimp only at e
      rw [Nat.add_sub_cancel] at e
      have body : Model_row_l36 M1 (nI (L + 1)) (nI K) (lN q.1) (oI q.2) (nI i) = (if oI (rwIn (alO T on q.2) (wyN T on (L - i)) q.1 (lwS T on).length).2 = -1 then some (.inr (-1, M1)) else some (.inl (lN (rwIn (alO T on q.2) (wyN T on (L - i)) q.1 (lwS T on).length).1, oI (rwIn (alO T on q.2) (wyN T on (L - i)) q.1 (lwS T on).length).2, nI (i + 1)))) := by
        unfold Model_row_l36 Model_row_j143_l36
        rw [if_neg (by rw [mb_lt (by omega) (by omega)]; omega), h2, mb_bd2, nI_1, mb_nm]
      obtain ⟨r1, r2⟩ := rwIn_l (alO T on q.2) (wyN T on (L - i)) q.1 (lwS T on).length
      cases hb : (rwIn (alO T on q.2) (wyN T on (L - i)) q.1 (lwS T on).length).2 with
      | none =>
        right
        rw [hb] at e body
        refine ⟨(-1, M1), ?_, ?_⟩
        · show Model_row_l36 M1 (nI (L + 1)) (nI K) (lN q.1) (oI q.2) (nI i) = _
          rw [body, if_pos (show oI none = -1 from rfl)]
        · rw [rwTo_n (show i + 1 ≤ K + 1 by omega) e]
      | some b =>
        left
        have hbl := r2 b hb
        rw [hb] at e body
        refine ⟨(lN (rwIn (alO T on q.2) (wyN T on (L - i)) q.1 (lwS T on).length).1, nI b, nI (i + 1)), ?_, rfl, _, e, rfl, rfl⟩
        show Model_row_l36 M1 (nI (L + 1)) (nI K) (lN q.1) (oI q.2) (nI i) = _
        rw [body, if_neg (show ¬ oI (some b) = -1 from nI_m1 (by omega))]
        rfl
    · intro s hI
      obtain ⟨x5, x7, x8⟩ := s
      obtain ⟨e1, q, hq, e2, e3⟩ := hI
      dsimp only at e1 e2 e3
      subst e1 e2 e3
      refine ⟨(oI q.2, M1), ?_, ?_⟩
      · show Model_row_l36 M1 (nI (L + 1)) (nI K) (lN q.1) (oI q.2) (nI (K + 1)) = _
        unfold Model_row_l36
        rw [if_pos (by rw [mb_lt (by omega) (by omega)]; omega)]
      · rw [hq]
  · rw [m_counts0 h (Or.inr (Or.inr (Or.inr c4))), mb_bd2, if_pos (by rfl), if_neg c1, if_neg c2, if_neg c3, if_neg c4]
    exact ⟨M, rfl, h⟩
end MO8
