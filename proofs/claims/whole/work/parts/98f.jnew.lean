/-! a text that was read: the class -/
variable {v : Nat → Nat} {n lv : Nat} {S0 S S1 M0 M M' : St} {T : Tx} {nN : Nat → List Nat} {pd mf mp cz ec lc lo k st f p sl : Nat}
theorem b2i_inj {a b : Bool} (h : b2i a = b2i b) : a = b := by
  cases a <;> cases b
  · rfl
  · exact absurd h (by decide)
  · exact absurd h (by decide)
  · rfl
theorem okI_mem {nf : Nat} : ∀ {is : List (Nat × Nat)} {s : List Sem}, okI nf is s → ∀ c, c ∈ is → c.1 = 2 ∨ c.1 = 26 → c.2 < nf
  | [], _, _, c, hc, _ => absurd hc List.not_mem_nil
  | d :: is, s, hk, c, hc, h => by
    rcases List.mem_cons.mp hc with z | z
    · subst z
      rcases hk.1 with ⟨y, -⟩ | ⟨-, y, -⟩ | ⟨y, -⟩ | ⟨y, -⟩
      · omega
      · exact y
      · omega
      · rcases h with h | h
        · rw [h] at y
          exact absurd y (by decide)
        · rw [h] at y
          exact absurd y (by decide)
    · exact okI_mem hk.2.2 c z h
theorem CG.dep2 {e nf : Nat} {f : Sem} {ol : Bool} (h : CG S sl e [f] ol nf) {now now' old old' : Nat → Int32} (hn : ∀ j, j < nf → now j = now' j) (ho : ol = true → ∀ j, j < nf → old j = old' j) : f now old = f now' old' := by
  obtain ⟨b, is, r, t1, t2, t3, t4, t5, t6, t7, t8, t9, t10⟩ := h
  have := ev_rn (is := is) (s := []) (now := now) (now' := now') (old := old) (old' := old') rfl (fun c hc => ⟨fun z => hn _ (okI_mem t6 c hc (Or.inl z)), fun z => ho ((t10 c hc).2 z) _ (okI_mem t6 c hc (Or.inr z))⟩)
  rw [t7] at this
  have this : [f now old] = [f now' old'] := this
  injection this
theorem wf_of (hQ : CQ T none cz S) (hT : TI T pd 0) (hn6 : tNf T ≤ 6) : wfT T := by
  obtain ⟨g1, g2, g3⟩ := hT.2.2.2 rfl
  refine ⟨hn6, g1, by omega, hT.1, hT.2.1, fun s k hs hk now now' old old' hn ho => ?_, fun k hk now now' hn => ?_⟩
  · by_cases c : s < 4
    · obtain ⟨e, -, hG⟩ := hQ.2.1 s k c hk
      exact b2i_inj (hG.dep2 (now := now) (now' := now') (old := old) (old' := old') hn (fun z => ho (Nat.eq_of_beq_eq_true z)))
    · have e4 : s = 4 := by omega
      subst e4
      rcases (hQ.2.2 k hk).2 with ⟨-, -, -, z⟩ | ⟨e, -, hG⟩
      · rw [z, z]
      · exact b2i_inj (hG.dep2 (now := now) (now' := now') (old := old) (old' := old') hn (fun z => absurd z (by decide)))
  · obtain ⟨e, -, hG⟩ := (hQ.2.2 k hk).1
    exact hG.dep2 (now := now) (now' := now') (old := fun _ => 0) (old' := fun _ => 0) hn (fun _ _ _ => rfl)
/-- the strides of the draft -/
theorem c_strides (hw : wfT T) (h10 : gI S 3 10 = nI (tNf T)) (hf : ∀ f, f < tNf T → gA S 3 1 f = nI (tFr T f) ∧ gA S 3 2 f = nI (tFr T f + tMa T f - 1)) : ∃ S', f_Book_setStrides S = some S' ∧ agC [] [(3, 3)] [] S S' ∧ ∀ f, f < tNf T → gA S' 3 3 f = nI (tSd T f) := by
  have n6 := hw.1
  have n1 := hw.2.2.1
  have key := wh_ix (f := un3 Book_setStrides_l14) (s := (S, (1 : Int32), nI (tNf T) - 1)) (tNf T) (fun m q => q.2.2 = nI (tNf T - m) - 1 ∧ q.2.1 = nI (pr (tMa T) (tNf T - m) m) ∧ agC [] [(3, 3)] [] S q.1 ∧ ∀ f, tNf T - m ≤ f → f < tNf T → gA q.1 3 3 f = nI (tSd T f)) (fun S' => agC [] [(3, 3)] [] S S' ∧ ∀ f, f < tNf T → gA S' 3 3 f = nI (tSd T f)) ⟨rfl, rfl, agC.rf S, fun f a b => by omega⟩ ?_ ?_
  · obtain ⟨S', h1, h2⟩ := key
    refine ⟨S', ?_, h2⟩
    unfold f_Book_setStrides
    rw [mb_nm, h10, l6, if_neg (by rw [mb_lt (by omega) (by omega)]; omega), h1, mb_bd]
  · intro m q hm hI
    obtain ⟨Sx, x1, x2⟩ := q
    obtain ⟨i1, i2, i3, i4⟩ := hI
    dsimp only at i1 i2 i3 i4
    obtain ⟨j, hj⟩ : ∃ j, tNf T - m = j + 1 := ⟨tNf T - m - 1, by omega⟩
    have hj2 : tNf T - (m + 1) = j := by omega
    have ex : x2 = nI j := by
      rw [i1, hj, l1, pk_sub (by omega)]
      rfl
    subst ex
    subst i2
    rw [hj] at i4 ⊢
    have es : tSd T j = pr (tMa T) (j + 1) m := by
      unfold tSd
      rw [show tNf T - (j + 1) = m by omega]
    have ep : pr (tMa T) j (m + 1) = tMa T j * pr (tMa T) (j + 1) m := rfl
    obtain ⟨w1, w2⟩ := hw.2.1 j (by omega)
    obtain ⟨v1, v2⟩ := hf j (by omega)
    have hsp : nI (tFr T j + tMa T j - 1) - nI (tFr T j) + 1 = nI (tMa T j) := by
      rw [pk_sub (by omega), nI_1]
      congr 1
      omega
    left
    refine ⟨(pA Sx 3 3 j (nI (tSd T j)), nI (pr (tMa T) j (m + 1)), nI j - 1), ?_, by rw [hj2], by rw [hj2], i3.tr (agC.pA Sx 3 3 _ _ (by decide)), ?_⟩
    · show Book_setStrides_l14 Sx (nI (pr (tMa T) (j + 1) m)) (nI j) = _
      unfold Book_setStrides_l14
      rw [if_neg (nI_pos (by omega)), mb_in (by omega) (by decide), mb_gd, mb_nm, mb_gd, mb_gd, mb_nm, mb_cl (by omega), gA_n _ _ (fun z => by omega), gA_n _ _ (fun z => by omega), i3.2.1 3 2 (by decide), i3.2.1 3 1 (by decide), v1, v2, hsp, pk_mul, mb_nm, ← es, ep, ← es, Nat.mul_comm, sub1]
    · intro f hf1 hf2
      rw [hj2] at hf1
      show gA (pA Sx 3 3 j (nI (tSd T j))) 3 3 f = _
      by_cases e : f = j
      · rw [e, gA_s]
      · rw [gA_n _ _ (fun z => e z.2.2)]
        exact i4 f (by omega) hf2
  · intro q hI
    obtain ⟨Sx, x1, x2⟩ := q
    obtain ⟨i1, i2, i3, i4⟩ := hI
    dsimp only at i1 i2 i3 i4
    rw [Nat.sub_self] at i1 i4
    refine ⟨Sx, ?_, i3, fun f hf => i4 f (by omega) hf⟩
    show Book_setStrides_l14 Sx x1 x2 = _
    unfold Book_setStrides_l14
    rw [i1, if_pos (by decide)]
/-- running a slot of the draft, once it is live -/
theorem cg_run {e nf : Nat} {f : Sem} {ol : Bool} {b o1 k1 o2 k2 : Nat} (h : CG S sl e [f] ol nf) (hsl : sl < 48) (n6 : nf ≤ 6) (e6 : gA S1 5 6 = gA S 3 6) (e7 : gA S1 5 7 = gA S 3 7) (e8 : gA S1 5 8 = gA S 3 8) (hm : mOk b o1 k1 o2 k2) : ∃ S2, f_Machine_run b o1 k1 o2 k2 S1 (nI sl) = some (f (gA S1 o1 k1) (gA S1 o2 k2), S2) ∧ agC [] [(b, 0)] [] S1 S2 := by
  obtain ⟨bg, is, r, t1, t2, t3, t4, t5, t6, t7, t8, t9, t10⟩ := h
  exact mr_run hm (is := is) hsl (by rw [e7]; exact t1) (by rw [e8, ← t3]; exact t2) (by omega) (by rw [e6]; exact t5) (okI_mono n6 t6) t7
theorem cg_ne {e nf : Nat} {f : Sem} {ol : Bool} (h : CG S sl e [f] ol nf) : ¬ gA S 3 7 sl = gA S 3 8 sl := by
  obtain ⟨bg, is, r, t1, t2, t3, t4, t5, t6, t7, t8, t9, t10⟩ := h
  have hl : 0 < is.length := by
    cases is with
    | nil => cases t7
    | cons c r => exact Nat.succ_pos _
  rw [t1, t2, mb_eq (by omega) (by omega)]
  omega
theorem ck_of (hw : wfT T) (hQ : CQ T none cz S) (hD : CDt T nN pd 0 mp S) (hpd : tIn T = pd) (hTL : TLd (tNt T) S) (h3 : ∀ f, f < tNf T → gA S 3 3 f = nI (tSd T f)) (eI : ∀ k, gI S1 5 k = gI S 3 k) (eA : ∀ k, gA S1 5 k = gA S 3 k) : CK T S1 := by
  have n6 := hw.1
  refine ⟨⟨by rw [eI]; exact hD.1, by rw [eI, hpd]; exact hD.2.1, fun f hf => ?_, fun s hs => by rw [eA]; exact hTL s hs, fun k hk => by rw [eA]; exact hD.2.2.2.2.2 k hk⟩, ⟨fun s k hs hk => ?_, fun k hk => ⟨?_, ?_⟩⟩, ?_⟩
  · obtain ⟨d1, d2, d3⟩ := hD.2.2.2.2.1 f hf
    exact ⟨by rw [eA]; exact d2, by rw [eA]; exact d3 rfl, by rw [eA]; exact h3 f hf⟩
  · obtain ⟨e, -, hG⟩ := hQ.2.1 s k (by omega) hk
    obtain ⟨r, r1, r2, r3⟩ := hG.dep
    refine ⟨r, r1, by rw [eA]; exact r2, fun now now' old old' hn => b2i_inj (r3 now now' old old' hn (fun z => ?_))⟩
    have := Nat.eq_of_beq_eq_true z
    omega
  · obtain ⟨e, -, hG⟩ := (hQ.2.2 k hk).1
    obtain ⟨r, r1, r2, r3⟩ := hG.dep
    exact ⟨r, r1, by rw [eA]; exact r2, fun now now' hn => r3 now now' (fun _ => 0) (fun _ => 0) hn (fun z => absurd z (by decide))⟩
  · rcases (hQ.2.2 k hk).2 with ⟨-, -, z9, z⟩ | ⟨e, -, hG⟩
    · exact ⟨0, by decide, by rw [eA, z9]; rfl, fun now now' old old' _ => by rw [z, z]⟩
    · obtain ⟨r, r1, r2, r3⟩ := hG.dep
      exact ⟨r, r1, by rw [eA]; exact r2, fun now now' old old' hn => b2i_inj (r3 now now' old old' hn (fun z => absurd z (by decide)))⟩
  · intro Sx e6 e7 e8 b o1 k1 o2 k2 hm
    rw [eA] at e6 e7 e8
    have n8 := hw.2.2.2.1
    refine ⟨fun s k hs hk => ?_, fun k hk => ⟨?_, ?_⟩⟩
    · obtain ⟨e, -, hG⟩ := hQ.2.1 s k hs hk
      have := n8 s (by omega)
      exact cg_run hG (by omega) n6 e6 e7 e8 hm
    · have := n8 4 (by decide)
      rw [eA, eA]
      rcases (hQ.2.2 k hk).2 with ⟨z7, z8, -, z⟩ | ⟨e, -, hG⟩
      · exact Or.inl ⟨by rw [z7, z8], z⟩
      · exact Or.inr ⟨cg_ne hG, cg_run hG (by omega) n6 e6 e7 e8 hm⟩
    · have := n8 4 (by decide)
      obtain ⟨e, -, hG⟩ := (hQ.2.2 k hk).1
      exact cg_run hG (by omega) n6 e6 e7 e8 hm
theorem sh_8 : ∀ k, k < 9 → ((1 : Int32) <<< (nI k &&& 31)) - 1 = nI (2 ^ k - 1) := by decide
/-- the class takes a new text -/
theorem c_new {tb : Nat → Int32} {S2 : St} (hw : wfT T) (hN : CN S2) (hQ : CQ T none cz S2) (hD : CDt T nN pd 0 mp S2) (hpd : tIn T = pd) (hTL : TLd (tNt T) S2) (h3 : ∀ f, f < tNf T → gA S2 3 3 f = nI (tSd T f)) (h13 : gI S2 1 3 = -1) : ∃ S', (nm (pI S2 0 6 (0 : Int32)) fun S_4 => nm (pI S_4 0 7 (gI S_4 1 3)) fun S_5 => bd (f_Chart_exchange S_5) fun S_8 => nm (swX S_8) fun S_9 => nm (pI S_9 7 1 (0 : Int32)) fun S_10 => bd (f_Lots_forgetLawful S_10) fun S_12 => some ((0 : Int32), S_12)) = some (0, S') ∧ cInv T (2 ^ tNt T 0 - 1) [] 0 tb (-1) S' ∧ Ph S2 ≤ Ph S' := by
  have n8 := hw.2.2.2.1 0 (by decide)
  obtain ⟨Sa, ea⟩ : ∃ Sa, Sa = pI (pI S2 0 6 0) 0 7 (-1) := ⟨_, rfl⟩
  have hTa : TLd (tNt T) Sa := by rw [ea]; exact hTL
  obtain ⟨Sb, eb⟩ : ∃ Sb, Sb = pI (pI (pI (pI (pI (pI Sa 4 12 (nI (2 ^ tNt T 0 - 1))) 4 13 0) 4 14 0) 4 15 0) 4 16 0) 4 17 0 := ⟨_, rfl⟩
  have gx : f_Chart_exchange Sa = some Sb := by
    unfold f_Chart_exchange
    rw [show f_Book_toldOf 3 Sa 0 = some (nI (tNt T 0)) from c_told3 hTa (so := 0) (by decide), mb_bd, sh_8 _ (by omega), mb_nm, mb_nm, mb_nm, mb_nm, mb_nm, mb_nm, ← eb]
  obtain ⟨S', e'⟩ : ∃ S', S' = pI (pI (pI (pI (pI (swX Sb) 7 1 0) 8 8 0) 8 9 0) 8 10 0) 9 6 0 := ⟨_, rfl⟩
  have hgo : (nm (pI S2 0 6 (0 : Int32)) fun S_4 => nm (pI S_4 0 7 (gI S_4 1 3)) fun S_5 => bd (f_Chart_exchange S_5) fun S_8 => nm (swX S_8) fun S_9 => nm (pI S_9 7 1 (0 : Int32)) fun S_10 => bd (f_Lots_forgetLawful S_10) fun S_12 => some ((0 : Int32), S_12)) = some (0, S') := by
    rw [mb_nm, mb_nm, gI_n _ _ (fun z => by omega), h13, ← ea, gx, mb_bd, mb_nm, mb_nm]
    unfold f_Lots_forgetLawful f_Bins_forget
    rw [mb_nm, mb_nm, mb_nm, mb_bd, mb_nm, mb_bd, ← e']
  have sI : ∀ o k, gI (swX Sb) o k = gI Sb (sw35 o) k := fun _ _ => rfl
  have gs : ∀ o k, ¬ (o = 7 ∧ k = 1) → ¬ (o = 8 ∧ k = 8) → ¬ (o = 8 ∧ k = 9) → ¬ (o = 8 ∧ k = 10) → ¬ (o = 9 ∧ k = 6) → gI S' o k = gI Sb (sw35 o) k := by
    intro o k h1 h2 h3 h4 h5
    rw [e', gI_n _ _ h5, gI_n _ _ h4, gI_n _ _ h3, gI_n _ _ h2, gI_n _ _ h1, sI]
  have eN : gN S' 4 5 = gN S2 4 5 ∧ gN S' 4 6 = gN S2 4 6 ∧ gN S' 4 7 = gN S2 4 7 := by
    rw [e', eb, ea]
    exact ⟨rfl, rfl, rfl⟩
  have eI5 : ∀ k, gI S' 5 k = gI S2 3 k := by
    intro k
    rw [gs 5 k (fun z => by omega) (fun z => by omega) (fun z => by omega) (fun z => by omega) (fun z => by omega)]
    show gI Sb 3 k = _
    rw [eb, gI_n _ _ (fun z => by omega), gI_n _ _ (fun z => by omega), gI_n _ _ (fun z => by omega), gI_n _ _ (fun z => by omega), gI_n _ _ (fun z => by omega), gI_n _ _ (fun z => by omega), ea, gI_n _ _ (fun z => by omega), gI_n _ _ (fun z => by omega)]
  have eA5 : ∀ k, gA S' 5 k = gA S2 3 k := by
    intro k
    rw [e', eb, ea]
    rfl
  have g12 : gI S' 4 12 = nI (2 ^ tNt T 0 - 1) := by
    rw [gs 4 12 (by decide) (by decide) (by decide) (by decide) (by decide), show sw35 4 = 4 from rfl, eb]
    simp [mb_II]
  have g13 : gI S' 4 13 = 0 := by
    rw [gs 4 13 (by decide) (by decide) (by decide) (by decide) (by decide), show sw35 4 = 4 from rfl, eb]
    simp [mb_II]
  have g14 : gI S' 4 14 = 0 := by
    rw [gs 4 14 (by decide) (by decide) (by decide) (by decide) (by decide), show sw35 4 = 4 from rfl, eb]
    simp [mb_II]
  have g15 : gI S' 4 15 = 0 := by
    rw [gs 4 15 (by decide) (by decide) (by decide) (by decide) (by decide), show sw35 4 = 4 from rfl, eb]
    simp [mb_II]
  have g16 : gI S' 4 16 = 0 := by
    rw [gs 4 16 (by decide) (by decide) (by decide) (by decide) (by decide), show sw35 4 = 4 from rfl, eb]
    simp [mb_II]
  have g17 : gI S' 4 17 = 0 := by
    rw [gs 4 17 (by decide) (by decide) (by decide) (by decide) (by decide), show sw35 4 = 4 from rfl, eb]
    simp [mb_II]
  have g06 : gI S' 0 6 = 0 := by
    rw [gs 0 6 (by decide) (by decide) (by decide) (by decide) (by decide), show sw35 0 = 0 from rfl, eb, ea]
    simp [mb_II]
  have g07 : gI S' 0 7 = -1 := by
    rw [gs 0 7 (by decide) (by decide) (by decide) (by decide) (by decide), show sw35 0 = 0 from rfl, eb, ea]
    simp [mb_II]
  have g71 : gI S' 7 1 = 0 := by rw [e']; simp [mb_II]
  have g87 : gI S' 8 8 = 0 := by rw [e']; simp [mb_II]
  have g88 : gI S' 8 9 = 0 := by rw [e']; simp [mb_II]
  have g89 : gI S' 8 10 = 0 := by rw [e']; simp [mb_II]
  have g96 : gI S' 9 6 = 0 := by rw [e']; simp [mb_II]
  refine ⟨S', hgo, ⟨hw, ⟨by decide, g06, g07, fun j hj => absurd hj (Nat.not_lt_zero j)⟩, ck_of hw hQ hD hpd hTL h3 eI5 eA5, ?_, ⟨fun z => absurd g13 z, fun z => absurd g14 z⟩, ⟨g12, Nat.sub_lt (Nat.two_pow_pos _) (by decide), fun z => absurd g16 z⟩, fun z => absurd g15 z, fun z => absurd g17 z, ⟨by decide, g71, fun k x hk => ?_⟩, fun z => absurd g87 z, fun z => absurd g88 z, fun z => absurd g89 z, fun z => absurd g96 z⟩, ?_⟩
  · unfold CN at *
    rw [eN.1, eN.2.1, eN.2.2]
    exact hN
  · have hk : (none : Option Nat) = some x := hk
    cases hk
  · unfold Ph
    rw [eN.1, eN.2.1]
    exact Nat.le_refl _
