/-! a new object, and all calls together -/
theorem wd_0 : f_Model_word 102 105 101 108 100 0 = some (keyL.getD 0 0) := by decide +kernel
theorem wd_1 : f_Model_word 102 114 111 109 0 0 = some (keyL.getD 1 0) := by decide +kernel
theorem wd_2 : f_Model_word 116 111 0 0 0 0 = some (keyL.getD 2 0) := by decide +kernel
theorem wd_3 : f_Model_word 108 97 119 0 0 0 = some (keyL.getD 3 0) := by decide +kernel
theorem wd_4 : f_Model_word 115 111 102 116 0 0 = some (keyL.getD 4 0) := by decide +kernel
theorem wd_5 : f_Model_word 98 105 110 0 0 0 = some (keyL.getD 5 0) := by decide +kernel
theorem wd_6 : f_Model_word 110 101 120 116 0 0 = some (keyL.getD 6 0) := by decide +kernel
theorem wd_7 : f_Model_word 115 104 97 114 101 0 = some (keyL.getD 7 0) := by decide +kernel
theorem wd_8 : f_Model_word 105 102 0 0 0 0 = some (keyL.getD 8 0) := by decide +kernel
theorem wd_9 : f_Model_word 111 114 0 0 0 0 = some (keyL.getD 9 0) := by decide +kernel
theorem wd_10 : f_Model_word 97 110 100 0 0 0 = some (keyL.getD 10 0) := by decide +kernel
theorem wd_11 : f_Model_word 110 111 116 0 0 0 = some (keyL.getD 11 0) := by decide +kernel
theorem wd_12 : f_Model_word 111 108 100 0 0 0 = some (keyL.getD 12 0) := by decide +kernel
noncomputable def mSk : St := pB (pB (pB (pB (pB (pB (pB (pB (pB (pB (pB (pB (pB mS0 0 9 0 (keyL.getD 0 0)) 0 9 1 (keyL.getD 1 0)) 0 9 2 (keyL.getD 2 0)) 0 9 3 (keyL.getD 3 0)) 0 9 4 (keyL.getD 4 0)) 0 9 5 (keyL.getD 5 0)) 0 9 6 (keyL.getD 6 0)) 0 9 7 (keyL.getD 7 0)) 0 9 8 (keyL.getD 8 0)) 0 9 9 (keyL.getD 9 0)) 0 9 10 (keyL.getD 10 0)) 0 9 11 (keyL.getD 11 0)) 0 9 12 (keyL.getD 12 0)
theorem init_k : f_Model_init mS0 = bd (f_Model_goesThrough mSk) (fun S_54 => some S_54) := by
  unfold f_Model_init mSk
  rw [wd_0, mb_bd, show inb (0 : Int32) 16 = true from by decide, mb_gd, mb_nm, show (0 : Int32).toNatClampNeg = 0 from by decide, wd_1, mb_bd, show inb (1 : Int32) 16 = true from by decide, mb_gd, mb_nm, show (1 : Int32).toNatClampNeg = 1 from by decide, wd_2, mb_bd, show inb (2 : Int32) 16 = true from by decide, mb_gd, mb_nm, show (2 : Int32).toNatClampNeg = 2 from by decide, wd_3, mb_bd, show inb (3 : Int32) 16 = true from by decide, mb_gd, mb_nm, show (3 : Int32).toNatClampNeg = 3 from by decide, wd_4, mb_bd, show inb (4 : Int32) 16 = true from by decide, mb_gd, mb_nm, show (4 : Int32).toNatClampNeg = 4 from by decide, wd_5, mb_bd, show inb (5 : Int32) 16 = true from by decide, mb_gd, mb_nm, show (5 : Int32).toNatClampNeg = 5 from by decide, wd_6, mb_bd, show inb (6 : Int32) 16 = true from by decide, mb_gd, mb_nm, show (6 : Int32).toNatClampNeg = 6 from by decide, wd_7, mb_bd, show inb (7 : Int32) 16 = true from by decide, mb_gd, mb_nm, show (7 : Int32).toNatClampNeg = 7 from by decide, wd_8, mb_bd, show inb (8 : Int32) 16 = true from by decide, mb_gd, mb_nm, show (8 : Int32).toNatClampNeg = 8 from by decide, wd_9, mb_bd, show inb (9 : Int32) 16 = true from by decide, mb_gd, mb_nm, show (9 : Int32).toNatClampNeg = 9 from by decide, wd_10, mb_bd, show inb (10 : Int32) 16 = true from by decide, mb_gd, mb_nm, show (10 : Int32).toNatClampNeg = 10 from by decide, wd_11, mb_bd, show inb (11 : Int32) 16 = true from by decide, mb_gd, mb_nm, show (11 : Int32).toNatClampNeg = 11 from by decide, wd_12, mb_bd, show inb (12 : Int32) 16 = true from by decide, mb_gd, mb_nm, show (12 : Int32).toNatClampNeg = 12 from by decide]
theorem mSk_9 : ∀ k, k < 13 → gB mSk 0 9 k = keyL.getD k 0 := by
  intro k hk
  unfold mSk
  rcases (show k = 0 ∨ k = 1 ∨ k = 2 ∨ k = 3 ∨ k = 4 ∨ k = 5 ∨ k = 6 ∨ k = 7 ∨ k = 8 ∨ k = 9 ∨ k = 10 ∨ k = 11 ∨ k = 12 by omega) with rfl | rfl | rfl | rfl | rfl | rfl | rfl | rfl | rfl | rfl | rfl | rfl | rfl <;> simp [mb_BB]
theorem wf_0 : wfT tx0 := ⟨by decide, fun f hf => absurd hf (Nat.not_lt_zero f), by decide, fun _ _ => Nat.zero_le 8, fun k hk => absurd hk (Nat.not_lt_zero k), fun s k _ hk => absurd hk (Nat.not_lt_zero k), fun k hk => absurd hk (Nat.not_lt_zero k)⟩
theorem m_init : ∃ M0, f_Model_init mS0 = some M0 ∧ mInv tx0 0 [] 0 (fun _ => 0) (-1) M0 := by
  have hMT : MT 0 tx0 mSk := ⟨by decide, rfl, rfl, fun f hf => absurd hf (Nat.not_lt_zero f), fun s _ => rfl, fun k hk => absurd hk (Nat.not_lt_zero k)⟩
  have hHO : HO 0 tx0 mSk := fun _ _ s k _ hk => absurd hk (Nat.not_lt_zero k)
  have hTE : TE 0 tx0 mSk := fun _ _ k hk => absurd hk (Nat.not_lt_zero k)
  have h52 : gI mSk 0 52 = 255 := rfl
  have hON : ON tx0 0 mSk := ⟨by rw [h52]; decide, by decide⟩
  obtain ⟨M', g', a', b1, b2, b3⟩ := m_goesThrough wf_0 hMT hHO hTE hON
  have t' : agT 0 mSk M' := a'.toT (by decide) (by decide) 0
  refine ⟨M', by rw [init_k, g', mb_bd], wf_0, ⟨0, hMT.ag wf_0 t', hHO.ag t', hTE.ag t'⟩, ⟨by rw [a'.1 52 (by decide)]; exact hON.1, hON.2⟩, b1, b2, b3, ⟨by decide, by rw [a'.1 2 (by decide)]; rfl, fun j hj => absurd hj (Nat.not_lt_zero j)⟩, by rw [a'.1 17 (by decide)]; rfl, ⟨by decide, by rw [a'.1 58 (by decide)]; rfl, fun k x hk => ?_⟩, fun k hk => by rw [a'.2.2.1]; exact mSk_9 k hk, 255, by decide, by rw [a'.1 52 (by decide)]; rfl⟩
  have hk : (none : Option Nat) = some x := hk
  cases hk
theorem c_init : cInv tx0 0 [] 0 (fun _ => 0) (-1) cS0 := by
  refine ⟨wf_0, ⟨by decide, rfl, rfl, fun j hj => absurd hj (Nat.not_lt_zero j)⟩, ⟨⟨rfl, rfl, fun f hf => absurd hf (Nat.not_lt_zero f), fun s _ => rfl, fun k hk => absurd hk (Nat.not_lt_zero k)⟩, ⟨fun s k _ hk => absurd hk (Nat.not_lt_zero k), fun k hk => absurd hk (Nat.not_lt_zero k)⟩, fun _ _ _ _ _ _ _ _ _ _ => ⟨fun s k _ hk => absurd hk (Nat.not_lt_zero k), fun k hk => absurd hk (Nat.not_lt_zero k)⟩⟩, ⟨Or.inl rfl, rfl, Or.inl rfl, Nat.le_refl 0⟩, ⟨fun z => absurd rfl z, fun z => absurd rfl z⟩, ⟨rfl, by decide, fun z => absurd rfl z⟩, fun z => absurd rfl z, fun z => absurd rfl z, ⟨by decide, rfl, fun k x hk => ?_⟩, fun z => absurd rfl z, fun z => absurd rfl z, fun z => absurd rfl z, fun z => absurd rfl z⟩
  have hk : (none : Option Nat) = some x := hk
  cases hk
/-! the bytes of the tape -/
def isY (x : Int32) : Prop := ∃ c, c < 256 ∧ x = sx c
theorem nI_8 : ∀ c, c < 256 → (nI c).toInt8.toBitVec = BitVec.ofNat 8 c := by decide +kernel
theorem byt_Y (w k : Int32) : isY (byt w k) := by
  have hlt := (w >>> (k &&& 31)).toInt8.toBitVec.isLt
  refine ⟨(w >>> (k &&& 31)).toInt8.toBitVec.toNat, hlt, ?_⟩
  unfold byt sx
  congr 1
  apply Int8.toBitVec_inj.mp
  rw [nI_8 _ hlt]
  apply BitVec.eq_of_toNat_eq
  rw [BitVec.toNat_ofNat]
  omega
theorem tbP_Y {tb : Nat → Int32} {tn j : Nat} (w : Int32) (h : j < tn → isY (tb j)) : isY (tbP tb tn w j) := by
  unfold tbP
  by_cases c : j < tn
  · rw [if_pos c]; exact h c
  · rw [if_neg c]; exact byt_Y _ _
theorem feed_Y {tb : Nat → Int32} {tn : Nat} (a b c d e : Int32) (h : ∀ j, j < tn → isY (tb j)) : ∀ j, j < (spFeed tn tb a b c d e).2.1 → isY ((spFeed tn tb a b c d e).2.2 j) := by
  intro j hj
  unfold spFeed at *
  by_cases q : tn + 20 ≤ 2000
  · rw [if_pos q]
    exact tbP_Y _ (fun _ => tbP_Y _ (fun _ => tbP_Y _ (fun _ => tbP_Y _ (fun _ => tbP_Y _ (fun z => h j z)))))
  · rw [if_neg q] at hj ⊢
    exact h j hj
theorem back_Y {tb : Nat → Int32} {tn : Nat} (x : Int32) (h : ∀ j, j < tn → isY (tb j)) : ∀ j, j < (spBack tn x).2 → isY (tb j) := by
  intro j hj
  unfold spBack at hj
  cases hx : ixN x (tn + 1) with
  | none => rw [hx] at hj; exact h j hj
  | some k =>
    rw [hx] at hj
    have hj : j < tn - k := hj
    exact h j (by omega)
def RelR (S M : St) : Prop := ∃ T on lg tn tb pl, mInv T on lg tn tb pl M ∧ cInv T on lg tn tb pl S ∧ ∀ j, j < tn → isY (tb j)
theorem ok_R : ok_all RelR Ph := by
  refine ⟨?_, ?_, ?_, ?_, ?_, ?_, ?_, ?_, ?_, ?_, ?_, ?_, ?_, ?_, ?_, ?_, ?_, ?_, ?_, ?_, ?_, ?_, ?_, ?_, ?_, ?_, ?_, ?_⟩
  · rintro S M ⟨T, on, lg, tn, tb, pl, -, hS, -⟩
    obtain ⟨n1, -, n2, -⟩ := hS.2.2.2.1
    unfold Ph
    have h1 : gN S 4 5 ≤ 32768 := by rcases n1 with z | z | z | z | z <;> omega
    have h2 : gN S 4 6 ≤ 32768 := by rcases n2 with z | z | z | z | z <;> omega
    omega
  · obtain ⟨M0, g, h⟩ := m_init
    exact ⟨M0, g, tx0, 0, [], 0, _, _, h, c_init, fun j hj => absurd hj (Nat.not_lt_zero j)⟩
  · rintro S M a b c d e ⟨T, on, lg, tn, tb, pl, hM, hS, hY⟩
    obtain ⟨M', g1, h1⟩ := mo_feed hM a b c d e
    obtain ⟨S', g2, h2, h3⟩ := cc_feed hS a b c d e
    exact ⟨_, S', M', g2, g1, ⟨T, on, lg, _, _, pl, h1, h2, feed_Y a b c d e hY⟩, h3⟩
  · rintro S M x ⟨T, on, lg, tn, tb, pl, hM, hS, hY⟩
    obtain ⟨M', g1, h1⟩ := mo_back hM x
    obtain ⟨S', g2, h2, h3⟩ := cc_back hS x
    exact ⟨_, S', M', g2, g1, ⟨T, on, lg, _, tb, pl, h1, h2, back_Y x hY⟩, h3⟩
  · rintro S M ⟨T, on, lg, tn, tb, pl, hM, hS, hY⟩
    obtain ⟨r, S', M', g1, g2, ⟨T', on', lg', pl', h1, h2⟩, h3⟩ := rd_all hM hS hY
    exact ⟨r, S', M', g1, g2, ⟨T', on', lg', 0, tb, pl', h1, h2, fun j hj => absurd hj (Nat.not_lt_zero j)⟩, h3⟩
  · rintro S M ⟨T, on, lg, tn, tb, pl, hM, hS, hY⟩
    exact ⟨_, cc_place hS, mo_place hM, T, on, lg, tn, tb, pl, hM, hS, hY⟩
  · rintro S M x b ⟨T, on, lg, tn, tb, pl, hM, hS, hY⟩ hb
    obtain ⟨M', g1, h1⟩ := mo_turn hM x b hb
    obtain ⟨S', g2, h2, h3⟩ := cc_turn hS x b
    exact ⟨_, S', M', g2, g1, ⟨T, _, lg, tn, tb, pl, h1, h2, hY⟩, h3⟩
  · rintro S M ⟨T, on, lg, tn, tb, pl, hM, hS, hY⟩
    obtain ⟨S', g2, h2, h3⟩ := cc_lawful hS
    exact ⟨_, S', g2, mo_lawful hM, ⟨T, on, lg, tn, tb, pl, hM, h2, hY⟩, h3⟩
  · rintro S M ⟨T, on, lg, tn, tb, pl, hM, hS, hY⟩
    obtain ⟨S', g2, h2, h3⟩ := cc_kept hS
    exact ⟨_, S', g2, mo_kept hM, ⟨T, on, lg, tn, tb, pl, hM, h2, hY⟩, h3⟩
  · rintro S M x y ⟨T, on, lg, tn, tb, pl, hM, hS, hY⟩
    obtain ⟨S', g2, h2, h3⟩ := cc_value hS x y
    exact ⟨_, S', g2, mo_value hM x y, ⟨T, on, lg, tn, tb, pl, hM, h2, hY⟩, h3⟩
  · rintro S M x ⟨T, on, lg, tn, tb, pl, hM, hS, hY⟩
    obtain ⟨S', g2, h2, h3⟩ := cc_share hS x
    exact ⟨_, S', g2, mo_share hM x, ⟨T, on, lg, tn, tb, pl, hM, h2, hY⟩, h3⟩
  · rintro S M ⟨T, on, lg, tn, tb, pl, hM, hS, hY⟩
    obtain ⟨S', g2, h2, h3⟩ := cc_sum hS
    exact ⟨_, S', g2, mo_sum hM, ⟨T, on, lg, tn, tb, pl, hM, h2, hY⟩, h3⟩
  · rintro S M x ⟨T, on, lg, tn, tb, pl, hM, hS, hY⟩
    obtain ⟨S', g2, h2, h3⟩ := cc_pick hS x
    exact ⟨_, S', g2, mo_pick hM x, ⟨T, on, lg, tn, tb, pl, hM, h2, hY⟩, h3⟩
  · rintro S M x y ⟨T, on, lg, tn, tb, pl, hM, hS, hY⟩
    obtain ⟨M', g1, h1⟩ := mo_draw hM x y
    obtain ⟨S', g2, h2, h3⟩ := cc_draw hS x y
    exact ⟨_, S', M', g2, g1, ⟨T, on, _, tn, tb, pl, h1, h2, hY⟩, h3⟩
  · rintro S M ⟨T, on, lg, tn, tb, pl, hM, hS, hY⟩
    obtain ⟨S', g2, h2, h3⟩ := cc_quarrel hS
    exact ⟨_, S', g2, mo_quarrel hM, ⟨T, on, lg, tn, tb, pl, hM, h2, hY⟩, h3⟩
  · rintro S M x ⟨T, on, lg, tn, tb, pl, hM, hS, hY⟩
    obtain ⟨S', g2, h2, h3⟩ := cc_alone hS x
    exact ⟨_, S', g2, mo_alone hM x, ⟨T, on, lg, tn, tb, pl, hM, h2, hY⟩, h3⟩
  · rintro S M x ⟨T, on, lg, tn, tb, pl, hM, hS, hY⟩
    obtain ⟨S', g2, h2, h3⟩ := cc_meets hS x
    exact ⟨_, S', g2, mo_meets hM x, ⟨T, on, lg, tn, tb, pl, hM, h2, hY⟩, h3⟩
  · rintro S M x y ⟨T, on, lg, tn, tb, pl, hM, hS, hY⟩
    obtain ⟨S', g2, h2, h3⟩ := cc_cross hS x y
    exact ⟨_, S', g2, mo_cross hM x y, ⟨T, on, lg, tn, tb, pl, hM, h2, hY⟩, h3⟩
  · rintro S M x ⟨T, on, lg, tn, tb, pl, hM, hS, hY⟩
    obtain ⟨S', g2, h2, h3⟩ := cc_hits hS x
    exact ⟨_, S', g2, mo_hits hM x, ⟨T, on, lg, tn, tb, pl, hM, h2, hY⟩, h3⟩
  · rintro S M ⟨T, on, lg, tn, tb, pl, hM, hS, hY⟩
    obtain ⟨M', v, g1, h1, f1⟩ := mo_fill hM
    obtain ⟨S', w, g2, h2, h3, f2⟩ := cc_fill hS
    have e := f1.un f2
    subst e
    exact ⟨_, S', M', g2, g1, ⟨T, on, lg, tn, tb, pl, h1, h2, hY⟩, h3⟩
  · rintro S M x ⟨T, on, lg, tn, tb, pl, hM, hS, hY⟩
    obtain ⟨M', v, g1, h1, f1⟩ := mo_fills hM x
    obtain ⟨S', w, g2, h2, h3, f2⟩ := cc_fills hS x
    have e := spFills_un f1 f2
    subst e
    exact ⟨_, S', M', g2, g1, ⟨T, on, lg, tn, tb, pl, h1, h2, hY⟩, h3⟩
  · rintro S M ⟨T, on, lg, tn, tb, pl, hM, hS, hY⟩
    obtain ⟨S', g2, h2, h3⟩ := cc_best hS
    exact ⟨_, S', g2, mo_best hM, ⟨T, on, lg, tn, tb, pl, hM, h2, hY⟩, h3⟩
  · rintro S M x ⟨T, on, lg, tn, tb, pl, hM, hS, hY⟩
    obtain ⟨S', g2, h2, h3⟩ := cc_least hS x
    exact ⟨_, S', g2, mo_least hM x, ⟨T, on, lg, tn, tb, pl, hM, h2, hY⟩, h3⟩
  · rintro S M x y ⟨T, on, lg, tn, tb, pl, hM, hS, hY⟩
    exact ⟨_, cc_logged hS x y, mo_logged hM x y, T, on, lg, tn, tb, pl, hM, hS, hY⟩
  · rintro S M x ⟨T, on, lg, tn, tb, pl, hM, hS, hY⟩
    obtain ⟨S', g2, h2, h3⟩ := cc_fallen hS x
    exact ⟨_, S', g2, mo_fallen hM x, ⟨T, on, lg, tn, tb, pl, hM, h2, hY⟩, h3⟩
  · rintro S M x ⟨T, on, lg, tn, tb, pl, hM, hS, hY⟩
    obtain ⟨M', g1, h1⟩ := mo_rows hM x
    obtain ⟨S', g2, h2, h3⟩ := cc_rows hS x
    exact ⟨_, S', M', g2, g1, ⟨T, on, lg, tn, tb, pl, h1, h2, hY⟩, h3⟩
  · rintro S M x y z ⟨T, on, lg, tn, tb, pl, hM, hS, hY⟩
    obtain ⟨M', g1, h1⟩ := mo_row hM x y z
    obtain ⟨S', g2, h2, h3⟩ := cc_row hS x y z
    exact ⟨_, S', M', g2, g1, ⟨T, on, lg, tn, tb, pl, h1, h2, hY⟩, h3⟩
  · rintro S M x ⟨T, on, lg, tn, tb, pl, hM, hS, hY⟩
    exact ⟨_, cc_count hS x, mo_count hM x, T, on, lg, tn, tb, pl, hM, hS, hY⟩
