/-! a text that was read: the reference -/
variable {v : Nat → Nat} {n lv dv : Nat} {S0 S S1 M0 M M1 M' : St} {T : Tx} {nN : Nat → List Nat} {pd mf mp cz ec lc lo k st f p sl : Nat}
theorem RCD.aT {a : Nat} {is : List (Nat × Nat)} (h : RCD M (500 * dv + a) is) (t : agT dv M M1) (hb : a + is.length ≤ 500) : RCD M1 (500 * dv + a) is := by
  intro i c hi
  have hlt := (List.getElem?_eq_some_iff.mp hi).1
  obtain ⟨h1, h2, h3⟩ := h i c hi
  have t39 := t.2 (39, 500) (by decide) (a + i) (by show a + i < 500; omega)
  have t40 := t.2 (40, 500) (by decide) (a + i) (by show a + i < 500; omega)
  dsimp only at t39 t40
  rw [show 500 * dv + a + i = 500 * dv + (a + i) by omega] at h1 h2 ⊢
  exact ⟨by rw [t39]; exact h1, by rw [t40]; exact h2, h3⟩
theorem LIT.aT {q : Nat} {o : Bool} {l : BSem} (h : LIT M dv ec q o l) (t : agT dv M M1) (hec : ec ≤ 500) (hq : q < 200) : LIT M1 dv ec q o l := by
  obtain ⟨x, ng, f, g, a, il, ir, y1, y2, y3, e32, e33, e34, e35, e36, e37, he, rl, rr, kl, kr, fl, fr⟩ := h
  have t32 := t.2 (32, 200) (by decide) q hq
  have t33 := t.2 (33, 200) (by decide) q hq
  have t34 := t.2 (34, 200) (by decide) q hq
  have t35 := t.2 (35, 200) (by decide) q hq
  have t36 := t.2 (36, 200) (by decide) q hq
  have t37 := t.2 (37, 200) (by decide) q hq
  dsimp only at t32 t33 t34 t35 t36 t37
  have rr' : RCD M1 (500 * dv + a + il.length) ir := by
    rw [show 500 * dv + a + il.length = 500 * dv + (a + il.length) by omega] at rr ⊢
    exact rr.aT t (by omega)
  exact ⟨x, ng, f, g, a, il, ir, y1, y2, y3, by rw [t32]; exact e32, by rw [t33]; exact e33, by rw [t34]; exact e34, by rw [t35]; exact e35, by rw [t36]; exact e36, by rw [t37]; exact e37, he, rl.aT t (by omega), rr', kl, kr, fl, fr⟩
theorem CND.aT {c : Nat} {ls : List (Bool × BSem)} (h : CND M dv ec lc c ls) (t : agT dv M M1) (hec : ec ≤ 500) (hlc : lc ≤ 200) (hc : c < 40) : CND M1 dv ec lc c ls := by
  obtain ⟨lo, u1, u2, u3, u4⟩ := h
  have t27 := t.2 (27, 40) (by decide) c hc
  have t28 := t.2 (28, 40) (by decide) c hc
  dsimp only at t27 t28
  refine ⟨lo, by rw [t27]; exact u1, by rw [t28]; exact u2, u3, fun i o l hi => (u4 i o l hi).aT t hec ?_⟩
  have hlt := (List.getElem?_eq_some_iff.mp hi).1
  omega
theorem ho_of (hdv : dv < 2) (hN : ∀ s, s < 5 → tNt T s ≤ 8) (h18 : gI M 0 18 = nI dv) (hq : MQd dv T ec lc M) (hec : ec ≤ 500) (hlc : lc ≤ 200) : HO dv T M := by
  intro M1 t s k hs hk
  obtain ⟨ls, u1, u2⟩ := hq.1 s k hs hk
  have := hN s hs
  obtain ⟨M2, g2, a2⟩ := ho_run hec hlc hdv (c := 8 * s + k) (by omega) (by rw [t.1]; exact h18) (u1.aT t hec hlc (by omega))
  exact ⟨M2, by rw [u2]; exact g2, a2⟩
theorem te_of (hdv : dv < 2) (hN : ∀ s, s < 5 → tNt T s ≤ 8) (hq : MQd dv T ec lc M) (hec : ec ≤ 500) : TE dv T M := by
  intro M1 t k hk
  obtain ⟨a, is, f, u1, u2, u3, u4, u5, u6, u7⟩ := hq.2 k hk
  have := hN 4 (by decide)
  have t29 := t.2 (29, 40) (by decide) (32 + k) (by show 32 + k < 40; omega)
  have t30 := t.2 (30, 40) (by decide) (32 + k) (by show 32 + k < 40; omega)
  dsimp only at t29 t30
  obtain ⟨M2, g2, a2⟩ := te_run (M := M1) (a := 500 * dv + a) (is := is) (by omega) (u4.aT t (by omega)) u5 u6
  refine ⟨M2, ?_, a2⟩
  rw [t29, t30, u1, u2, g2, u7]
theorem on_255 : ∀ k, k < 9 → (255 : Int32) &&& nI (2 ^ k - 1) = nI (2 ^ k - 1) := by decide
/-- the reference takes a new text -/
theorem m_new {tb : Nat → Int32} (hw : wfT T) (hdv : dv < 2) (h19 : gI M 0 19 = nI dv) (hD : MDt dv T nN pd 0 mp M) (hq : MQd dv T ec lc M) (hec : ec ≤ 500) (hlc : lc ≤ 200) (h2 : gI M 0 2 = 0) (hK : ∀ k, k < 13 → gB M 0 9 k = keyL.getD k 0) : ∃ M', (nm (pI M 0 17 (-1)) fun S_39 => nm (pI S_39 0 18 (gI S_39 0 19)) fun S_42 => nm (pI S_42 0 52 (255 : Int32)) fun S_43 => nm (pI S_43 0 58 (0 : Int32)) fun S_44 => bd (f_Model_goesThrough S_44) fun S_46 => some ((0 : Int32), S_46)) = some (0, M') ∧ mInv T (2 ^ tNt T 0 - 1) [] 0 tb (-1) M' := by
  have n8 := hw.2.2.2.1
  obtain ⟨Ma, ea⟩ : ∃ Ma, Ma = pI (pI (pI (pI M 0 17 (-1)) 0 18 (nI dv)) 0 52 255) 0 58 0 := ⟨_, rfl⟩
  have aa : agZ [17, 18, 52, 58] [] [] M Ma := by
    rw [ea]
    exact (((agZ.pI M 17 _ (by decide)).tr (agZ.pI _ 18 _ (by decide))).tr (agZ.pI _ 52 _ (by decide))).tr (agZ.pI _ 58 _ (by decide))
  have h18 : gI Ma 0 18 = nI dv := by rw [ea]; simp [mb_II]
  have hMT : MT dv T Ma := ⟨hdv, h18, by rw [aa.2.1 20 (by decide)]; exact hD.1, fun f hf => by rw [aa.2.1 22 (by decide), aa.2.1 23 (by decide)]; exact (hD.2.2.2.2.1 f hf).2, by rw [aa.2.1 25 (by decide)]; exact hD.2.2.2.2.2.1, by rw [aa.2.1 26 (by decide)]; exact hD.2.2.2.2.2.2⟩
  have hqa : MQd dv T ec lc Ma := hq.eq (fun x _ => aa.2.1 x (by intro z; cases z))
  have hHO := ho_of hdv n8 h18 hqa hec hlc
  have hTE := te_of hdv n8 hqa hec
  have hON : ON T (2 ^ tNt T 0 - 1) Ma := ⟨by rw [show gI Ma 0 52 = 255 by rw [ea]; simp [mb_II]]; exact on_255 _ (by have := n8 0 (by decide); omega), Nat.sub_lt (Nat.two_pow_pos _) (by decide)⟩
  obtain ⟨M', g', a', b1, b2, b3⟩ := m_goesThrough hw hMT hHO hTE hON
  have t' : agT dv Ma M' := a'.toT (by decide) (by decide) dv
  refine ⟨M', ?_, hw, ⟨dv, hMT.ag hw t', hHO.ag t', hTE.ag t'⟩, ⟨by rw [a'.1 52 (by decide)]; exact hON.1, hON.2⟩, b1, b2, b3, ⟨by decide, ?_, fun j hj => absurd hj (Nat.not_lt_zero j)⟩, ?_, ⟨by decide, ?_, fun k x hk => ?_⟩, fun k hk => ?_, 255, by decide, ?_⟩
  · rw [mb_nm, mb_nm, mb_nm, mb_nm, gI_n _ _ (fun z => by omega), h19, ← ea, g', mb_bd]
  · rw [a'.1 2 (by decide), aa.1 2 (by decide)]; exact h2
  · rw [a'.1 17 (by decide), ea]; simp [mb_II]
  · rw [a'.1 58 (by decide), ea]; simp [mb_II]; rfl
  · have hk : (none : Option Nat) = some x := hk
    cases hk
  · rw [a'.2.2.1, aa.2.2 9 (by decide)]; exact hK k hk
  · rw [a'.1 52 (by decide), ea]; simp [mb_II]; rfl
/-- what a fault leaves -/
theorem m_kept {T : Tx} {on : Nat} {lg : List Nat} {tn : Nat} {tb : Nat → Int32} {pl pl' : Int32} (h : mInv T on lg tn tb pl M) (t : ∀ lv, gI M 0 18 = nI lv → lv < 2 → agT lv M M1) (a : agZ [2, 4, 10, 11, 12, 13, 14, 15, 16, 17, 19, 38, 41, 43] [3, 5, 6, 7, 20, 22, 23, 25, 26, 27, 28, 29, 30, 31, 32, 33, 34, 35, 36, 37, 39, 40, 42] [8, 21] M M1) (h2 : gI M1 0 2 = 0) (h17 : gI M1 0 17 = pl') : mInv T on lg 0 tb pl' M1 := by
  obtain ⟨hw, ⟨lv, m1, m2, m3⟩, m4, m5, m6, m7, m8, m9, m10, m11⟩ := h
  have tt := t lv m1.2.1 m1.1
  refine ⟨hw, ⟨lv, m1.ag hw tt, m2.ag tt, m3.ag tt⟩, ?_, ?_, ?_, ?_, ⟨by decide, h2, fun j hj => absurd hj (Nat.not_lt_zero j)⟩, h17, ?_, ?_⟩
  · unfold ON at *
    rw [a.1 52 (by decide)]
    exact m4
  · unfold BT at *
    rw [a.1 44 (by decide), a.2.1 46 (by decide), a.2.1 47 (by decide), a.2.1 48 (by decide)]
    exact m5
  · unfold SD at *
    rw [a.2.1 45 (by decide)]
    exact m6
  · unfold SE at *
    rw [a.1 53 (by decide), a.1 54 (by decide), a.1 57 (by decide), a.2.1 55 (by decide), a.2.1 56 (by decide)]
    exact m7
  · unfold LG at *
    rw [a.1 58 (by decide), a.2.1 59 (by decide)]
    exact m10
  · unfold KY at *
    rw [a.2.2 9 (by decide), a.1 52 (by decide)]
    exact m11
