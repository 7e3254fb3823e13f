/-! the reference: alone, least -/
def alTo (T : Tx) (on rest : Nat) : Nat → Nat
  | 0 => 0
  | i + 1 => alTo T on rest i + cond (Nat.beq (bN T 0 i &&& on) rest) 1 0
theorem al_le (T : Tx) (on rest : Nat) : ∀ i, alTo T on rest i ≤ i
  | 0 => Nat.le_refl 0
  | i + 1 => by
    have h := al_le T on rest i
    show alTo T on rest i + cond (Nat.beq (bN T 0 i &&& on) rest) 1 0 ≤ i + 1
    cases Nat.beq (bN T 0 i &&& on) rest
    · show alTo T on rest i + 0 ≤ i + 1; omega
    · show alTo T on rest i + 1 ≤ i + 1; omega
def spAlone (T : Tx) (on : Nat) (x : Int32) : Int32 := match ixN x (tNt T 0) with
  | none => -1
  | some k => cond (on.testBit k) (nI (alTo T on (on ^^^ 2 ^ k) (tIn T))) (-1)
theorem clr_bit {on k : Nat} (ho : on < 256) (hk : k < 8) (hb : on.testBit k = true) : nI on &&& (nI (2 ^ k) ^^^ (-1)) = nI (on ^^^ 2 ^ k) := by
  have e1 : (-1 : Int32) = nI 4294967295 := by decide
  rw [e1, nI_xor, nI_and]
  congr 1
  apply Nat.eq_of_testBit_eq
  intro j
  rw [Nat.testBit_and, Nat.testBit_xor, Nat.testBit_xor, show (4294967295 : Nat) = 2 ^ 32 - 1 from rfl, Nat.testBit_two_pow_sub_one, Nat.testBit_two_pow]
  by_cases e : k = j
  · subst e
    rw [hb, decide_eq_true rfl, decide_eq_true (show k < 32 by omega)]
    rfl
  · rw [decide_eq_false e]
    by_cases c : j < 32
    · rw [decide_eq_true c]
      simp
    · have : on.testBit j = false := Nat.testBit_lt_two_pow (Nat.lt_of_lt_of_le ho (Nat.le_trans (show 256 ≤ 2 ^ 32 by decide) (Nat.pow_le_pow_right (by decide) (by omega))))
      rw [this]
      rfl
/-- the sum of an input's values, each less its from -/
def hgTo (T : Tx) (i : Nat) : Nat → Nat
  | 0 => 0
  | f + 1 => hgTo T i f + i / tSd T f % tMa T f
theorem hg_le {T : Tx} (hw : wfT T) (i : Nat) : ∀ f, f ≤ tNf T → hgTo T i f ≤ 10000 * f
  | 0, _ => Nat.le_refl 0
  | f + 1, hf => by
    have h := hg_le hw i f (by omega)
    have h1 := hw.2.1 f (by omega)
    have h2 : i / tSd T f % tMa T f < tMa T f := Nat.mod_lt _ (by omega)
    show hgTo T i f + i / tSd T f % tMa T f ≤ 10000 * (f + 1)
    omega
def leTo (T : Tx) (on b : Nat) : Nat → Option Nat × Nat
  | 0 => (none, 0)
  | k + 1 => cond ((bN T 2 ((lwS T on).getD k 0)).testBit b) (match (leTo T on b k).1 with
    | none => (some k, hgTo T ((lwS T on).getD k 0) (tNf T))
    | some c => if hgTo T ((lwS T on).getD k 0) (tNf T) < (leTo T on b k).2 then (some k, hgTo T ((lwS T on).getD k 0) (tNf T)) else (some c, (leTo T on b k).2)) (leTo T on b k)
theorem le_lt {T : Tx} (hw : wfT T) (on b : Nat) : ∀ k, (∀ c, (leTo T on b k).1 = some c → c < k) ∧ (leTo T on b k).2 ≤ 60000
  | 0 => ⟨fun c h => (by cases h), Nat.zero_le _⟩
  | k + 1 => by
    obtain ⟨h1, h2⟩ := le_lt hw on b k
    have n6 := hw.1
    have p8 := hg_le hw ((lwS T on).getD k 0) (tNf T) (Nat.le_refl _)
    have ek : leTo T on b (k + 1) = cond ((bN T 2 ((lwS T on).getD k 0)).testBit b) (match (leTo T on b k).1 with | none => (some k, hgTo T ((lwS T on).getD k 0) (tNf T)) | some c => if hgTo T ((lwS T on).getD k 0) (tNf T) < (leTo T on b k).2 then (some k, hgTo T ((lwS T on).getD k 0) (tNf T)) else (some c, (leTo T on b k).2)) (leTo T on b k) := rfl
    rw [ek]
    cases (bN T 2 ((lwS T on).getD k 0)).testBit b with
    | false => exact ⟨fun c h => by have := h1 c h; omega, h2⟩
    | true =>
      show (∀ c, (match (leTo T on b k).1 with | none => (some k, hgTo T ((lwS T on).getD k 0) (tNf T)) | some c => if hgTo T ((lwS T on).getD k 0) (tNf T) < (leTo T on b k).2 then (some k, hgTo T ((lwS T on).getD k 0) (tNf T)) else (some c, (leTo T on b k).2)).1 = some c → c < k + 1) ∧ (match (leTo T on b k).1 with | none => (some k, hgTo T ((lwS T on).getD k 0) (tNf T)) | some c => if hgTo T ((lwS T on).getD k 0) (tNf T) < (leTo T on b k).2 then (some k, hgTo T ((lwS T on).getD k 0) (tNf T)) else (some c, (leTo T on b k).2)).2 ≤ 60000
      cases hb : (leTo T on b k).1 with
      | none => exact ⟨fun c h => (by cases h; omega), by dsimp only; omega⟩
      | some d =>
        have hc := h1 d hb
        dsimp only
        by_cases q : hgTo T ((lwS T on).getD k 0) (tNf T) < (leTo T on b k).2
        · rw [if_pos q]; exact ⟨fun c h => (by cases h; omega), by dsimp only; omega⟩
        · rw [if_neg q]; exact ⟨fun c h => (by cases h; omega), h2⟩
def spLeast (T : Tx) (on : Nat) (x : Int32) : Int32 := match ixN x (tNt T 2) with
  | none => -1
  | some b => oI (leTo T on b (lwS T on).length).1
section MO7
variable {T : Tx} {on tn : Nat} {lg : List Nat} {tb : Nat → Int32} {pl : Int32} {M : St}
theorem mo_alone (h : mInv T on lg tn tb pl M) (x : Int32) : f_Model_alone M x = some (spAlone T on x) := by
  obtain ⟨hw, ⟨lv, hM, -, -⟩, ho, hb, -, hs, -, -, -, hky⟩ := h
  have n8 := hw.2.2.2.1 0 (by decide)
  have n1 := hw.2.2.1
  obtain ⟨n, hn, en⟩ := hky.2
  have hpw : 2 ^ tNt T 0 ≤ 256 := by
    have : 2 ^ tNt T 0 ≤ 2 ^ 8 := Nat.pow_le_pow_right (by decide) n8
    omega
  have o8 : on < 256 := by have := ho.2; omega
  have eo : n &&& (2 ^ tNt T 0 - 1) = on := by
    have h1 := ho.1
    rw [en, nI_and] at h1
    have h2 : n &&& (2 ^ tNt T 0 - 1) < 256 := Nat.lt_of_le_of_lt Nat.and_le_left hn
    rw [mb_eq (by omega) (by omega)] at h1
    exact h1
  unfold f_Model_alone Model_alone_j24 spAlone
  rw [show f_Model_tellsOf M 0 = some (nI (tNt T 0)) from m_tellsOf hM (s := 0) (by decide), mb_bd]
  cases h1 : ixN x (tNt T 0) with
  | none =>
    rcases ixN_n h1 with q | ⟨q, r⟩
    · rw [if_pos q]
    · rw [if_neg q, if_pos r]
  | some k =>
    obtain ⟨k1, rfl, q, r⟩ := ixN_s (by omega) h1
    have tb1 : on.testBit k = n.testBit k := by
      rw [← eo, Nat.testBit_and, Nat.testBit_two_pow_sub_one, decide_eq_true k1, Bool.and_true]
    rw [if_neg q, if_neg r, en]
    dsimp only
    cases hbk : on.testBit k with
    | false =>
      rw [if_pos (by rw [bit_I hn (by omega), ← tb1]; exact hbk)]
      rfl
    | true =>
      have hr8 : on ^^^ 2 ^ k < 256 := Nat.xor_lt_two_pow (n := 8) o8 (pow_lt8 (by omega))
      rw [if_neg (by rw [bit_I hn (by omega), ← tb1, hbk]; decide), m_laws hw hM ho, mb_bd, sh_bit k (by omega), clr_bit o8 (by omega) hbk, mb_nm]
      have key := wh_ix (f := un2 (Model_alone_l42 M (nI (on ^^^ 2 ^ k)))) (s := ((0 : Int32), (0 : Int32))) (tIn T) (fun i q => q.2 = nI i ∧ q.1 = nI (alTo T on (on ^^^ 2 ^ k) i)) (fun r => r = nI (alTo T on (on ^^^ 2 ^ k) (tIn T))) ⟨rfl, rfl⟩ ?_ ?_
      · obtain ⟨r, h1, h2⟩ := key
        rw [h1, h2, mb_bd]
        rfl
      · intro i q hi hI
        obtain ⟨x3, x4⟩ := q
        obtain ⟨e1, e2⟩ := hI
        dsimp only at e1 e2
        subst e1 e2
        have b0 := bN_lt hw (show (0 : Nat) < 5 by decide) i
        have ba : bN T 0 i &&& on < 256 := Nat.lt_of_le_of_lt Nat.and_le_left b0
        have ek : alTo T on (on ^^^ 2 ^ k) (i + 1) = alTo T on (on ^^^ 2 ^ k) i + cond (Nat.beq (bN T 0 i &&& on) (on ^^^ 2 ^ k)) 1 0 := rfl
        left
        refine ⟨(nI (alTo T on (on ^^^ 2 ^ k) (i + 1)), nI (i + 1)), ?_, rfl, rfl⟩
        show Model_alone_l42 M (nI (on ^^^ 2 ^ k)) (nI (alTo T on (on ^^^ 2 ^ k) i)) (nI i) = _
        unfold Model_alone_l42 Model_alone_j70_l42
        rw [hb.1, if_neg (by rw [mb_le (by omega) (by omega)]; omega), mb_in (by omega) (by decide), mb_gd, m_laws hw hM ho, mb_bd, mb_cl (by omega), (hb.2 i hi).1, nI_and, nI_1, mb_nm, mb_nm, nI_1, mb_nm, ek]
        by_cases c : bN T 0 i &&& on = on ^^^ 2 ^ k
        · rw [if_pos (by rw [c]), c, Nat.beq_refl]
          rfl
        · have : Nat.beq (bN T 0 i &&& on) (on ^^^ 2 ^ k) = false := by
            cases hz : Nat.beq (bN T 0 i &&& on) (on ^^^ 2 ^ k) with
            | false => rfl
            | true => exact absurd (Nat.eq_of_beq_eq_true hz) c
          rw [if_neg (by rw [mb_eq (by omega) (by omega)]; exact c), this]
          rfl
      · intro q hI
        obtain ⟨x3, x4⟩ := q
        obtain ⟨e1, e2⟩ := hI
        dsimp only at e1 e2
        subst e1 e2
        refine ⟨nI (alTo T on (on ^^^ 2 ^ k) (tIn T)), ?_, rfl⟩
        show Model_alone_l42 M (nI (on ^^^ 2 ^ k)) _ (nI (tIn T)) = _
        unfold Model_alone_l42
        rw [hb.1, if_pos (by rw [mb_le (by omega) (by omega)]; omega)]
theorem m_height {lv : Nat} (hw : wfT T) (hM : MT lv T M) (hd : SD T M) (hs : SE T on M) {k : Nat} (hk : k < (lwS T on).length) (x1 x2 x3 : Int32) : wh (un2 (Model_least_l54 M x1 x2 x3 (nI k))) ((0 : Int32), (0 : Int32)) = some (nI (hgTo T ((lwS T on).getD k 0) (tNf T))) := by
  have hlen := lwS_len hw on
  have n1 := hw.2.2.1
  have n6 := hw.1
  have hlv := hM.1
  have hg := get_some hk
  have hx := lwS_lt hg
  have key := wh_ix (f := un2 (Model_least_l54 M x1 x2 x3 (nI k))) (s := ((0 : Int32), (0 : Int32))) (tNf T) (fun f q => q.2 = nI f ∧ q.1 = nI (hgTo T ((lwS T on).getD k 0) f)) (fun r => r = nI (hgTo T ((lwS T on).getD k 0) (tNf T))) ⟨rfl, rfl⟩ ?_ ?_
  · obtain ⟨r, h1, h2⟩ := key
    rw [h1, h2]
  · intro f q hf hI
    obtain ⟨x5, x6⟩ := q
    obtain ⟨e1, e2⟩ := hI
    dsimp only at e1 e2
    subst e1 e2
    have e3 : nI (tVa T ((lwS T on).getD k 0) f) - nI (tFr T f) = nI ((lwS T on).getD k 0 / tSd T f % tMa T f) := by
      rw [pk_sub (by unfold tVa; omega)]
      unfold tVa
      rw [Nat.add_sub_cancel_left]
    left
    refine ⟨(nI (hgTo T ((lwS T on).getD k 0) (f + 1)), nI (f + 1)), ?_, rfl, rfl⟩
    show Model_least_l54 M x1 x2 x3 (nI k) (nI (hgTo T ((lwS T on).getD k 0) f)) (nI f) = _
    unfold Model_least_l54
    rw [hM.2.1, mb_in (by omega) (by decide), mb_gd, mb_cl (show lv < 2147483648 by omega), hM.2.2.1, if_neg (by rw [mb_le (by omega) (by omega)]; omega), mb_in (by omega) (by decide), mb_gd, mb_cl (show k < 2147483648 by omega), (hs.2.2.2 k _ hg).1, m_valueOf hw hM hd (by omega) hf, mb_bd, l6, pk_mul, nI_add, mb_in (by omega) (by decide), mb_gd, mb_cl (by omega), (hM.2.2.2.1 f hf).1, e3, nI_add, mb_nm, nI_1, mb_nm]
    rfl
  · intro q hI
    obtain ⟨x5, x6⟩ := q
    obtain ⟨e1, e2⟩ := hI
    dsimp only at e1 e2
    subst e1 e2
    refine ⟨_, ?_, rfl⟩
    show Model_least_l54 M x1 x2 x3 (nI k) _ (nI (tNf T)) = _
    unfold Model_least_l54
    rw [hM.2.1, mb_in (by omega) (by decide), mb_gd, mb_cl (show lv < 2147483648 by omega), hM.2.2.1, if_pos (by rw [mb_le (by omega) (by omega)]; omega)]
theorem mo_least (h : mInv T on lg tn tb pl M) (x : Int32) : f_Model_least M x = some (spLeast T on x) := by
  obtain ⟨hw, ⟨lv, hM, -, -⟩, -, hb, hd, hs, -⟩ := h
  have hlen := lwS_len hw on
  have n1 := hw.2.2.1
  have n6 := hw.1
  have n8 := hw.2.2.2.1 2 (by decide)
  unfold f_Model_least spLeast
  rw [m_isBin hM, mb_bd]
  unfold ixB
  cases h1 : ixN x (tNt T 2) with
  | none => rfl
  | some b =>
    obtain ⟨k1, rfl, -, -⟩ := ixN_s (by omega) h1
    dsimp only
    rw [if_neg (by decide)]
    have key := wh_ix (f := un3 (Model_least_l17 M (nI b))) (s := ((-1 : Int32), (0 : Int32), (0 : Int32))) (lwS T on).length (fun k q => q.2.2 = nI k ∧ q.1 = oI (leTo T on b k).1 ∧ q.2.1 = nI (leTo T on b k).2) (fun r => r = oI (leTo T on b (lwS T on).length).1) ⟨rfl, rfl, rfl⟩ ?_ ?_
    · obtain ⟨r, h1, h2⟩ := key
      rw [h1, h2, mb_bd]
    · intro k q hk hI
      obtain ⟨x2, x3, x4⟩ := q
      obtain ⟨e1, e2, e3⟩ := hI
      dsimp only at e1 e2 e3
      subst e1 e2 e3
      have hg := get_some hk
      have hx := lwS_lt hg
      have b2 := bN_lt hw (show (2 : Nat) < 5 by decide) ((lwS T on).getD k 0)
      obtain ⟨z1, z2⟩ := le_lt hw on b k
      have p8 := hg_le hw ((lwS T on).getD k 0) (tNf T) (Nat.le_refl _)
      have ek : leTo T on b (k + 1) = cond ((bN T 2 ((lwS T on).getD k 0)).testBit b) (match (leTo T on b k).1 with | none => (some k, hgTo T ((lwS T on).getD k 0) (tNf T)) | some c => if hgTo T ((lwS T on).getD k 0) (tNf T) < (leTo T on b k).2 then (some k, hgTo T ((lwS T on).getD k 0) (tNf T)) else (some c, (leTo T on b k).2)) (leTo T on b k) := rfl
      left
      refine ⟨(oI (leTo T on b (k + 1)).1, nI (leTo T on b (k + 1)).2, nI (k + 1)), ?_, rfl, rfl, rfl⟩
      show Model_least_l17 M (nI b) (oI (leTo T on b k).1) (nI (leTo T on b k).2) (nI k) = _
      unfold Model_least_l17 Model_least_j122_l17 Model_least_j128_l17
      rw [hs.2.1, if_neg (by rw [mb_le (by omega) (by omega)]; omega), mb_in (by omega) (by decide), mb_gd, mb_cl (by omega), (hs.2.2.2 k _ hg).1, mb_in (by omega) (by decide), mb_gd, mb_cl (by omega), (hb.2 _ hx).2.2, m_height hw hM hd hs hk, mb_bd, mb_nm, nI_1, mb_nm, ek]
      cases hbt : (bN T 2 ((lwS T on).getD k 0)).testBit b with
      | false =>
        rw [if_pos (by rw [bit_I b2 (by omega)]; exact hbt)]
        rfl
      | true =>
        rw [if_neg (by rw [bit_I b2 (by omega), hbt]; decide)]
        dsimp only [cond_true]
        cases hc : (leTo T on b k).1 with
        | none =>
          rw [if_pos (by rfl)]
          rfl
        | some d =>
          have hbk := z1 d hc
          rw [if_neg (show ¬ oI (some d) = -1 from nI_m1 (by omega))]
          dsimp only
          by_cases c : hgTo T ((lwS T on).getD k 0) (tNf T) < (leTo T on b k).2
          · rw [if_pos (by rw [mb_lt (by omega) (by omega)]; exact c), if_pos c]
            rfl
          · rw [if_neg (by rw [mb_lt (by omega) (by omega)]; exact c), if_neg c]
    · intro q hI
      obtain ⟨x2, x3, x4⟩ := q
      obtain ⟨e1, e2, e3⟩ := hI
      dsimp only at e1 e2 e3
      subst e1 e2 e3
      refine ⟨_, ?_, rfl⟩
      show Model_least_l17 M (nI b) _ _ (nI (lwS T on).length) = _
      unfold Model_least_l17
      rw [hs.2.1, if_pos (by rw [mb_le (by omega) (by omega)]; omega)]
end MO7
