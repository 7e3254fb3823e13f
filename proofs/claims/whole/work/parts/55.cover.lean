/-! sets as bits: covers -/
def df (m o : Nat) : Nat := m ^^^ (m &&& o)
theorem df_tb (m o j : Nat) : (df m o).testBit j = (m.testBit j && !o.testBit j) := by
  unfold df
  rw [Nat.testBit_xor, Nat.testBit_and]
  cases m.testBit j <;> cases o.testBit j <;> rfl
theorem tb_ext {a b : Nat} (h : ∀ j, a.testBit j = b.testBit j) : a = b := Nat.eq_of_testBit_eq h
theorem df_co (m a b : Nat) : df (df m a) b = df (df m b) a := tb_ext (fun j => by rw [df_tb, df_tb, df_tb, df_tb]; cases m.testBit j <;> cases a.testBit j <;> cases b.testBit j <;> rfl)
theorem df_id (m a : Nat) : df (df m a) a = df m a := tb_ext (fun j => by rw [df_tb, df_tb]; cases m.testBit j <;> cases a.testBit j <;> rfl)
theorem df_0 (a : Nat) : df 0 a = 0 := tb_ext (fun j => by rw [df_tb]; simp)
def sb (m n : Nat) : Prop := ∀ j, m.testBit j = true → n.testBit j = true
theorem sb.rf (m : Nat) : sb m m := fun _ h => h
theorem sb.tr {a b c : Nat} (h1 : sb a b) (h2 : sb b c) : sb a c := fun j h => h2 j (h1 j h)
theorem sb_df (m o : Nat) : sb (df m o) m := fun j h => by
  rw [df_tb, Bool.and_eq_true] at h
  exact h.1
theorem sb_dd {m n : Nat} (o : Nat) (h : sb m n) : sb (df m o) (df n o) := fun j q => by
  rw [df_tb, Bool.and_eq_true] at q
  rw [df_tb, h j q.1, q.2]
  rfl
theorem sb_0 {m : Nat} (h : sb m 0) : m = 0 := tb_ext (fun j => by
  cases hm : m.testBit j with
  | false => simp
  | true => have := h j hm; simp at this)
theorem df_mask {m W : Nat} (h : sb m W) (b : Nat) : df m (b &&& W) = df m b := tb_ext (fun j => by
  rw [df_tb, df_tb, Nat.testBit_and]
  cases hm : m.testBit j with
  | false => rfl
  | true => rw [h j hm, Bool.and_true])
theorem sb_le {m n : Nat} (h : sb m n) : m ≤ n := by
  have e : m ||| n = n := tb_ext (fun j => by
    rw [Nat.testBit_or]
    cases hm : m.testBit j with
    | false => rfl
    | true => rw [h j hm]; rfl)
  have : m ≤ m ||| n := Nat.left_le_or
  omega
theorem df_lt {m o j : Nat} (h1 : m.testBit j = true) (h2 : o.testBit j = true) : df m o < m := by
  have h3 := sb_le (sb_df m o)
  rcases Nat.lt_or_ge (df m o) m with q | q
  · exact q
  · have e : df m o = m := by omega
    have := df_tb m o j
    rw [e, h1, h2] at this
    cases this
theorem df_le8 {m : Nat} (o : Nat) (h : m < 256) : df m o < 256 := Nat.lt_of_le_of_lt (sb_le (sb_df m o)) h
def cv (A : Nat → Prop) (f : Nat → Nat) : Nat → Nat → Prop
  | 0, m => m = 0
  | n + 1, m => cv A f n m ∨ ∃ k, A k ∧ cv A f n (df m (f k))
theorem cv_up {A : Nat → Prop} {f : Nat → Nat} {m a b : Nat} (h : a ≤ b) (hc : cv A f a m) : cv A f b m := by
  induction h with
  | refl => exact hc
  | step _ ih => exact Or.inl ih
theorem cv_z (A : Nat → Prop) (f : Nat → Nat) (n : Nat) : cv A f n 0 := cv_up (Nat.zero_le n) rfl
theorem cv_sb {A : Nat → Prop} {f : Nat → Nat} : ∀ {n m m' : Nat}, sb m m' → cv A f n m' → cv A f n m
  | 0, m, m', h, hc => by
    have e : m' = 0 := hc
    rw [e] at h
    exact sb_0 h
  | n + 1, m, m', h, hc => by
    rcases hc with q | ⟨k, q1, q2⟩
    · exact Or.inl (cv_sb h q)
    · exact Or.inr ⟨k, q1, cv_sb (sb_dd _ h) q2⟩
theorem cv_A {A B : Nat → Prop} {f : Nat → Nat} (hAB : ∀ k, A k → B k) : ∀ {n m : Nat}, cv A f n m → cv B f n m
  | 0, _, h => h
  | n + 1, m, h => by
    rcases h with q | ⟨k, q1, q2⟩
    · exact Or.inl (cv_A hAB q)
    · exact Or.inr ⟨k, hAB k q1, cv_A hAB q2⟩
/-- some member of a cover meets a given bit: it may come first -/
theorem cv_pick {A : Nat → Prop} {f : Nat → Nat} : ∀ {n m x : Nat}, m.testBit x = true → cv A f n m → ∃ k n', n = n' + 1 ∧ A k ∧ (f k).testBit x = true ∧ cv A f n' (df m (f k))
  | 0, m, x, hx, h => by
    have e : m = 0 := h
    rw [e] at hx
    simp at hx
  | n + 1, m, x, hx, h => by
    rcases h with q | ⟨k, q1, q2⟩
    · obtain ⟨k, n', e, h1, h2, h3⟩ := cv_pick hx q
      exact ⟨k, n, rfl, h1, h2, cv_up (by omega) h3⟩
    · cases hk : (f k).testBit x with
      | true => exact ⟨k, n, rfl, q1, hk, q2⟩
      | false =>
        have hx' : (df m (f k)).testBit x = true := by rw [df_tb, hx, hk]; rfl
        obtain ⟨k', n', e, h1, h2, h3⟩ := cv_pick hx' q2
        subst e
        refine ⟨k', n' + 1, rfl, h1, h2, Or.inr ⟨k, q1, ?_⟩⟩
        rw [df_co]
        exact h3
theorem cv_full {A : Nat → Prop} {f : Nat → Nat} : ∀ {n m : Nat}, m < 2 ^ n → (∀ j, m.testBit j = true → ∃ k, A k ∧ (f k).testBit j = true) → cv A f n m
  | 0, m, h, _ => by
    have e : m = 0 := by simp at h; exact h
    exact e
  | n + 1, m, h, hj => by
    cases hb : m.testBit n with
    | false => exact Or.inl (cv_full (Nat.lt_pow_two_of_testBit m (fun i hi => by
        rcases Nat.lt_or_ge n i with q | q
        · exact Nat.testBit_lt_two_pow (Nat.lt_of_lt_of_le h (Nat.pow_le_pow_right (by decide) q))
        · have : i = n := by omega
          rw [this]; exact hb)) hj)
    | true =>
      obtain ⟨k, h1, h2⟩ := hj n hb
      refine Or.inr ⟨k, h1, cv_full (Nat.lt_pow_two_of_testBit _ (fun i hi => ?_)) (fun j q => ?_)⟩
      · rw [df_tb]
        rcases Nat.lt_or_ge n i with q | q
        · rw [Nat.testBit_lt_two_pow (Nat.lt_of_lt_of_le h (Nat.pow_le_pow_right (by decide) q))]; rfl
        · have : i = n := by omega
          rw [this, h2, Bool.not_true, Bool.and_false]
      · rw [df_tb, Bool.and_eq_true] at q
        exact hj j q.1
/-- v is the least number of members that cover m, or 9 -/
def Mn (A : Nat → Prop) (f : Nat → Nat) (m v : Nat) : Prop := v ≤ 9 ∧ ∀ n, n < 9 → (cv A f n m ↔ v ≤ n)
theorem Mn.un {A : Nat → Prop} {f : Nat → Nat} {m v w : Nat} (h1 : Mn A f m v) (h2 : Mn A f m w) : v = w := by
  have k1 : v ≤ w := by
    rcases Nat.lt_or_ge w 9 with q | q
    · exact (h1.2 w q).1 ((h2.2 w q).2 (Nat.le_refl _))
    · have := h1.1; omega
  have k2 : w ≤ v := by
    rcases Nat.lt_or_ge v 9 with q | q
    · exact (h2.2 v q).1 ((h1.2 v q).2 (Nat.le_refl _))
    · have := h2.1; omega
  omega
theorem Mn.z (A : Nat → Prop) (f : Nat → Nat) : Mn A f 0 0 := ⟨by omega, fun n _ => ⟨fun _ => Nat.zero_le n, fun _ => cv_z A f n⟩⟩
theorem ne_bit {m : Nat} (h : m ≠ 0) : ∃ j, m.testBit j = true := by
  refine Classical.byContradiction (fun q => h (tb_ext (fun j => ?_)))
  cases hm : m.testBit j with
  | false => simp
  | true => exact absurd ⟨j, hm⟩ q
/-- one step of the table: the least over those members that are of use -/
theorem Mn.step {A : Nat → Prop} {f F : Nat → Nat} {m v : Nat} (hm : m ≠ 0) (h9 : v ≤ 9) (hF : ∀ k, A k → (∃ j, m.testBit j = true ∧ (f k).testBit j = true) → Mn A f (df m (f k)) (F (df m (f k)))) (x : Nat) (hx : m.testBit x = true) (hmin : ∀ k, A k → (f k).testBit x = true → v ≤ F (df m (f k)) + 1) (hat : v < 9 → ∃ k, A k ∧ (∃ j, m.testBit j = true ∧ (f k).testBit j = true) ∧ v = F (df m (f k)) + 1) : Mn A f m v := by
  refine ⟨h9, fun n hn => ⟨fun hc => ?_, fun hv => ?_⟩⟩
  · obtain ⟨k, n', e, h1, h2, h3⟩ := cv_pick hx hc
    have h4 := hmin k h1 h2
    have h5 := ((hF k h1 ⟨x, hx, h2⟩).2 n' (by omega)).1 h3
    omega
  · obtain ⟨k, h1, h2, h3⟩ := hat (by omega)
    have h4 := ((hF k h1 h2).2 (v - 1) (by omega)).2 (by omega)
    refine cv_up hv ?_
    rw [show v = (v - 1) + 1 by omega]
    exact Or.inr ⟨k, h1, h4⟩
/-- the least place with which so few are enough -/
def lsP (P : Nat → Prop) (g : Nat) : Prop := P g ∧ ∀ j, j < g → ¬ P j
theorem lsP.un {P : Nat → Prop} {g h : Nat} (h1 : lsP P g) (h2 : lsP P h) : g = h := by
  rcases Nat.lt_trichotomy g h with q | q | q
  · exact absurd h1.1 (h2.2 g q)
  · exact q
  · exact absurd h2.1 (h1.2 h q)
def cvA (f : Nat → Nat) (L n m : Nat) : Prop := cv (fun k => k < L) f n m
def stP (f : Nat → Nat) (L n S : Nat) (j : Nat) : Prop := j < L ∧ cvA f L n (df S (f j))
def gr (f : Nat → Nat) (L n W : Nat) : Nat → Nat → Prop
  | 0, S => S = W
  | k + 1, S => ∃ S0 j, gr f L n W k S0 ∧ lsP (stP f L (n - k - 1) S0) j ∧ S = df S0 (f j)
theorem gr_un {f : Nat → Nat} {L n W : Nat} : ∀ {k S S' : Nat}, gr f L n W k S → gr f L n W k S' → S = S'
  | 0, S, S', h1, h2 => by
    have e1 : S = W := h1
    have e2 : S' = W := h2
    rw [e1, e2]
  | k + 1, S, S', h1, h2 => by
    obtain ⟨S0, j, a1, a2, a3⟩ := h1
    obtain ⟨S1, i, b1, b2, b3⟩ := h2
    have e := gr_un a1 b1
    subst e
    have e2 := a2.un b2
    rw [a3, b3, e2]
/-- how the greedy road stands before step k -/
def grI (f : Nat → Nat) (L n W k S a0 : Nat) : Prop := gr f L n W k S ∧ sb S W ∧ cvA f L (n - k) S ∧ (k < n → ¬ cvA f L (n - k - 1) S) ∧ (k < n → ∀ j, stP f L (n - k - 1) S j → a0 ≤ j)
theorem grI.i {f : Nat → Nat} {L n W : Nat} (h1 : cvA f L n W) (h2 : ∀ m, m < n → ¬ cvA f L m W) : grI f L n W 0 W 0 := ⟨rfl, sb.rf W, h1, fun h => h2 (n - 0 - 1) (by omega), fun _ _ _ => Nat.zero_le _⟩
theorem cv_far {f : Nat → Nat} {L g : Nat} : ∀ {t m : Nat}, cvA f L t m → cv (fun k => g + 1 ≤ k ∧ k < L) f t m ∨ ∃ j t', t = t' + 1 ∧ j ≤ g ∧ j < L ∧ cvA f L t' (df m (f j))
  | 0, m, h => Or.inl h
  | t + 1, m, h => by
    rcases h with q | ⟨k, q1, q2⟩
    · rcases cv_far (g := g) q with r | ⟨j, t', e, r1, r2, r3⟩
      · exact Or.inl (Or.inl r)
      · exact Or.inr ⟨j, t, rfl, r1, r2, cv_up (by omega) r3⟩
    · rcases Nat.lt_or_ge g k with c | c
      · rcases cv_far (g := g) q2 with r | ⟨j, t', e, r1, r2, r3⟩
        · exact Or.inl (Or.inr ⟨k, ⟨c, q1⟩, r⟩)
        · subst e
          refine Or.inr ⟨j, t' + 1, rfl, r1, r2, Or.inr ⟨k, q1, ?_⟩⟩
          rw [df_co]
          exact r3
      · exact Or.inr ⟨k, t, rfl, c, q1, q2⟩
theorem grI.s {f : Nat → Nat} {L n W k S a0 : Nat} (h : grI f L n W k S a0) (hk : k < n) : ∃ g, lsP (stP f L (n - k - 1) S) g ∧ a0 ≤ g ∧ g < L ∧ (∀ p, p < g → ¬ cv (fun k => p + 1 ≤ k ∧ k < L) f (n - k - 1) (df S (f p))) ∧ cv (fun k => g + 1 ≤ k ∧ k < L) f (n - k - 1) (df S (f g)) ∧ grI f L n W (k + 1) (df S (f g)) (g + 1) := by
  obtain ⟨h1, h2, h3, h4, h5⟩ := h
  have hne : ∃ x, S.testBit x = true := ne_bit (fun e => h4 hk (by rw [e]; exact cv_z _ _ _))
  obtain ⟨x, hx⟩ := hne
  obtain ⟨k1, n', e1, e2, e3, e4⟩ := cv_pick hx h3
  have hP : ∃ j, stP f L (n - k - 1) S j := ⟨k1, e2, by
    have : n' = n - k - 1 := by omega
    rw [← this]; exact e4⟩
  obtain ⟨g, hg1, hg2⟩ := pk_least _ hP
  have hgl : g < L := hg1.1
  refine ⟨g, ⟨hg1, hg2⟩, h5 hk g hg1, hg1.1, fun p hp hc => hg2 p hp ⟨by omega, cv_A (fun k q => q.2) hc⟩, ?_, ⟨⟨S, g, h1, ⟨hg1, hg2⟩, rfl⟩, (sb_df S _).tr h2, ?_, fun hk1 hc => ?_, fun hk1 j hj => ?_⟩⟩
  · rcases cv_far (g := g) hg1.2 with r | ⟨j, t', e, r1, r2, r3⟩
    · exact r
    · exfalso
      rcases Nat.lt_or_ge j g with c | c
      · refine hg2 j c ⟨r2, ?_⟩
        rw [e]
        refine Or.inr ⟨g, hg1.1, ?_⟩
        show cvA f L t' _
        rw [df_co]
        exact r3
      · have ej : j = g := by omega
        rw [ej, df_id] at r3
        refine h4 hk ?_
        rw [e]
        exact Or.inr ⟨g, hg1.1, r3⟩
  · show cvA f L (n - (k + 1)) _
    exact hg1.2
  · refine h4 hk ?_
    rw [show n - k - 1 = (n - (k + 1) - 1) + 1 by omega]
    exact Or.inr ⟨g, hg1.1, hc⟩
  · rcases Nat.lt_or_ge g j with c | c
    · exact c
    · exfalso
      rcases Nat.lt_or_ge j g with d | d
      · refine hg2 j d ⟨hj.1, ?_⟩
        rw [show n - k - 1 = (n - (k + 1) - 1) + 1 by omega]
        refine Or.inr ⟨g, hg1.1, ?_⟩
        show cvA f L (n - (k + 1) - 1) _
        rw [df_co]
        exact hj.2
      · have ej : j = g := by omega
        have r3 := hj.2
        rw [ej, df_id] at r3
        refine h4 hk ?_
        rw [show n - k - 1 = (n - (k + 1) - 1) + 1 by omega]
        exact Or.inr ⟨g, hg1.1, r3⟩
theorem df_I {m o : Nat} (hm : m < 256) (ho : o < 256) : nI m &&& (nI o ^^^ (-1)) = nI (df m o) := by
  have e1 : (-1 : Int32) = nI 4294967295 := by decide
  rw [e1, nI_xor, nI_and]
  congr 1
  apply tb_ext
  intro j
  rw [df_tb, Nat.testBit_and, Nat.testBit_xor, show (4294967295 : Nat) = 2 ^ 32 - 1 from rfl, Nat.testBit_two_pow_sub_one]
  by_cases c : j < 32
  · rw [decide_eq_true c]
    simp
  · have : m.testBit j = false := Nat.testBit_lt_two_pow (Nat.lt_of_lt_of_le hm (Nat.le_trans (show 256 ≤ 2 ^ 32 by decide) (Nat.pow_le_pow_right (by decide) (by omega))))
    rw [this]
    rfl
