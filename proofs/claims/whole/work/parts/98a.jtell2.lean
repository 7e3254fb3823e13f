/-! both read a tell that is no field: whole -/
variable {v : Nat → Nat} {n lv : Nat} {S0 S M0 M M' : St} {T : Tx} {ex : Option Sem} {nN : Nat → List Nat} {pd mf mp mf' cz ec lc sd so ne sl lo k st f p c w : Nat} {wq : Option Nat} {tl : Nat → Nat} {wl bo : List Nat} {vl bv : List Sem} {b : BSem} {am : (Nat → Int32) → Int32}
theorem CP.cw (h : CP v n S0 k st sd so ne sl lo wl vl T ex nN pd mf mp cz tl wq S) : CW T ex so sl lo wl vl mf cz S := h.2.2.2.2.2.2.2.2.2.2
theorem CW.q (h : CW T ex so sl lo wl vl mf cz S) : mf = 0 → cz ≤ 400 → CQ T ex cz S ∧ CG S sl cz vl (Nat.beq so 3) (tNf T) := h.2.2.2.2.2.2.2.2
def TI (T : Tx) (pd mf : Nat) : Prop := (∀ s, s < 5 → tNt T s ≤ 8) ∧ (∀ k, k < tNt T 1 → tWt T k ≤ 9999) ∧ pd ≤ 32769 ∧ (mf = 0 → (∀ f, f < tNf T → 1 ≤ tMa T f ∧ tFr T f + tMa T f ≤ 10000) ∧ tIn T = pd ∧ pd ≤ 32768)
theorem TI.addC (h : TI T pd mf) (h8 : tNt T so < 8) (hw : so = 1 → w ≤ 9999) (hm : mf' = 0 → mf = 0) : TI (addC T so b w am) pd mf' := by
  refine ⟨fun s hs => ?_, fun q hq => ?_, h.2.2.1, fun z => h.2.2.2 (hm z)⟩
  · rw [tNt_addC]
    by_cases e : s = so
    · rw [if_pos e]; omega
    · rw [if_neg e]; exact h.1 s hs
  · rw [tNt_addC] at hq
    rw [tWt_addC]
    by_cases e : so = 1 ∧ q = tNt T 1
    · rw [if_pos e]; exact hw e.1
    · rw [if_neg e]
      refine h.2.1 q ?_
      by_cases e1 : 1 = so
      · rw [if_pos e1, ← e1] at hq
        have : ¬ q = tNt T 1 := fun e2 => e ⟨e1.symm, e2⟩
        omega
      · rw [if_neg e1] at hq
        exact hq
def JT (v : Nat → Nat) (n lv : Nat) (S0 M0 : St) (k : Nat) (T : Tx) (nN : Nat → List Nat) (pd mf mp cz ec lc : Nat) (S M : St) : Prop := CPz v n S0 k 0 (tNt T 4) T nN pd mf mp cz S ∧ RB v n lv M0 k T nN pd mf mp ec lc M ∧ DOK T nN mf mp ∧ TI T pd mf ∧ ec ≤ k ∧ 3 * lc ≤ k ∧ cz ≤ k
def JO (v : Nat → Nat) (n lv : Nat) (S0 M0 : St) (k : Nat) (M : St) : Prop := FF S0 lv M0 M ∨ ∃ k' T nN pd mf mp cz ec lc S, k < k' ∧ JT v n lv S0 M0 k' T nN pd mf mp cz ec lc S M
theorem JO.mono {k' : Nat} (h : JO v n lv S0 M0 k' M) (hk : k ≤ k') : JO v n lv S0 M0 k M := by
  rcases h with z | ⟨k2, T, nN, pd, mf, mp, cz, ec, lc, S, h1, h2⟩
  · exact Or.inl z
  · exact Or.inr ⟨k2, T, nN, pd, mf, mp, cz, ec, lc, S, by omega, h2⟩
/-- two places of the tell are written -/
theorem r_232 (hlv : lv < 2) (h19 : gI M0 0 19 = nI (1 - lv)) (hc : cOK T c) (hc40 : c < 40) (hR : RB v n lv M0 k T nN pd mf mp ec lc M) (x1 : Int32) : ∃ M', (∀ y : Int32, (if x1 = 4 then y = 0 else y = 1) → Model_tell_j232 M x1 (nI (40 * (1 - lv) + c)) = Model_tell_j267 M' x1 (nI (40 * (1 - lv) + c)) y) ∧ RB v n lv M0 k T nN pd mf mp ec lc M' ∧ gI M' 0 41 = gI M 0 41 ∧ gA M' 0 27 (40 * (1 - lv) + c) = nI lc ∧ gA M' 0 30 (40 * (1 - lv) + c) = nI (500 * (1 - lv) + ec) ∧ gA M' 0 26 = gA M 0 26 ∧ gA M' 0 29 = gA M 0 29 ∧ (∀ x, x ∈ [32, 33, 34, 35, 36, 37, 39, 40] → gA M' 0 x = gA M 0 x) := by
  obtain ⟨M', eM⟩ : ∃ M', M' = pA (pA M 0 30 (40 * (1 - lv) + c) (nI (500 * (1 - lv) + ec))) 0 27 (40 * (1 - lv) + c) (nI lc) := ⟨_, rfl⟩
  have e19 : gI M 0 19 = nI (1 - lv) := by rw [hR.1.1.i 19 (by decide)]; exact h19
  have e31 : gA M 0 31 (1 - lv) = nI lc := hR.2.2.2.1
  have e38 : gI M 0 38 = nI (500 * (1 - lv) + ec) := hR.2.2.1
  have a : agZ [] [27, 30] [] M M' := by rw [eM]; exact (agZ.pA M 30 _ _ (by decide)).tr (agZ.pA _ 27 _ _ (by decide))
  have fr : FR lv M M' := by rw [eM]; exact (FR.zA hlv M 30 40 c _ (by decide) (by decide) hc40 rfl).tr (FR.zA hlv _ 27 40 c _ (by decide) (by decide) hc40 rfl)
  refine ⟨M', fun y hy => ?_, ?_, a.1 41 (by decide), by rw [eM, gA_s], by rw [eM, gA_n _ _ (fun z => by omega), gA_s], a.2.1 26 (by decide), a.2.1 29 (by decide), fun x hx => a.2.1 x (fun y => by revert hx y; revert x; decide)⟩
  · unfold Model_tell_j232
    rw [mb_in (by omega) (by decide), mb_gd, mb_nm, mb_cl (by omega), e38, mb_IA, e19, mb_in (by omega) (by decide), mb_gd, mb_gd, mb_nm, mb_cl (by omega), gA_n _ _ (fun z => by omega), e31, ← eM]
    by_cases z : x1 = 4
    · rw [if_pos z] at hy ⊢
      rw [hy]
    · rw [if_neg z] at hy ⊢
      rw [hy]
  · refine hR.put hc fr (a.wk (by decide) (by decide) (by decide)) (by rw [eM]; rfl) (fun j hj => ⟨by rw [a.2.1 26 (by decide)], ?_, by rw [a.2.1 29 (by decide)], ?_⟩)
    · rw [eM, gA_n _ _ (fun z => hj z.2.2), gA_n _ _ (fun z => by omega)]
    · rw [eM, gA_n _ _ (fun z => by omega), gA_n _ _ (fun z => hj z.2.2)]
theorem so_ne4 (hso : so < 4) : ¬ nI so = (4 : Int32) := by rw [show (4 : Int32) = nI 4 from rfl, mb_eq (by omega) (by decide)]; omega
/-- a tell with a condition from here on -/
theorem j_232c (h0 : TK0 v n lv M0) (hso : so < 4) (h8 : tNt T so < 8) (hT : TI T pd mf) (hC : CP v n S0 k 8 1 so 0 (8 * so + tNt T so) (tNt T 4) [] [] T none nN pd mf mp cz (tlU T so) wq S) (hR : RB v n lv M0 k T nN pd mf mp ec lc M) (h41 : gI M 0 41 = b2i (Nat.beq so 3)) (hec : ec ≤ k) (hlc : 3 * lc ≤ k) (hcz : cz ≤ k) (hD : DOK T nN mf mp) (h26 : so = 1 → gA M 0 26 (40 * (1 - lv) + (8 * so + tNt T so)) = nI w) (hwq : so = 1 → wq = some w) (hw : so = 1 → w ≤ 9999) : ∃ M', Model_tell_j232 M (nI so) (nI (40 * (1 - lv) + (8 * so + tNt T so))) = some M' ∧ JO v n lv S0 M0 k M' := by
  have hlv := h0.1
  have hcn := cOK_new (by omega) h8 hT.1
  obtain ⟨M1, g1, r1, u41, u27, -, u26, -, -⟩ := r_232 hlv h0.2.2.1 hcn (by omega) hR (nI so)
  rw [g1 1 (by rw [if_neg (so_ne4 hso)])]
  have e267 : Model_tell_j267 M1 (nI so) (nI (40 * (1 - lv) + (8 * so + tNt T so))) 1 = Model_tell_j288 M1 (nI so) (nI (40 * (1 - lv) + (8 * so + tNt T so))) 1 := by
    have his : f_Model_is M1 28 = _ := r_is r1.1 h0 (x := 22) (by decide)
    unfold Model_tell_j267
    rw [his, mb_bd, if_neg (so_ne4 hso)]
    by_cases z : b2i (Nat.beq (tK v n k) 22) = 0
    · rw [if_pos z]
    · rw [if_neg z]
  rw [e267]
  obtain ⟨M2, g2, o2⟩ := j_288 (w := w) (am := fun _ => 0) h0 (by omega) h8 hT.1 hC r1 (by rw [u41]; exact h41) hec hlc hcz hD u27 (fun z => by rw [u26]; exact h26 z) (fun z => absurd z (by omega))
  refine ⟨M2, g2, ?_⟩
  rcases o2 with z | ⟨k2, ls, mf2, mp2, cz2, ec2, lc2, S2, y1, y2, y3, y4, y5, y6, y7, y8⟩
  · exact Or.inl z
  · have hW := fin_c (w := w) (am := fun _ => 0) hso y2.cw
    have hn4 : tNt T 4 = tNt (addC T so (cnB ls) w (fun _ => 0)) 4 := by rw [tNt_addC, if_neg (by omega)]
    exact Or.inr ⟨k2, _, nN, pd, mf2, mp2, cz2, ec2, lc2, S2, y1, c_fin y2 hwq hW hn4, y3, y8, hT.addC h8 hw y4, y5, y6, y7⟩
/-- a share from its amount on -/
theorem j_232s {e : Sem} {ec0 : Nat} (h0 : TK0 v n lv M0) (h8 : tNt T 4 < 8) (hT : TI T pd mf) (hC : CP v n S0 k 11 0 4 0 (8 * 4 + tNt T 4) (tNt T 4) wl vl T none nN pd mf mp cz (tlU T 4) none S) (hr : rel 1 wl vl = ([], [e])) (hvl : vl.length = nbW wl + 1) (hR : RB v n lv M0 k T nN pd mf mp ec lc M) (h41 : gI M 0 41 = 0) (hec : ec ≤ k) (hlc : 3 * lc ≤ k) (hcz : cz + wl.length ≤ k) (hD : DOK T nN mf mp) (hK : ¬ tK v n k = 5 ∧ ¬ tK v n k = 6 ∧ ¬ tK v n k = 7) (h29 : gA M 0 29 (40 * (1 - lv) + (8 * 4 + tNt T 4)) = nI (500 * (1 - lv) + ec0)) (his : mf = 0 → ∃ is, ec = ec0 + is.length ∧ RCD M (500 * (1 - lv) + ec0) is ∧ okI (tNf T) is [] ∧ rnS is [] = [e]) : ∃ M', Model_tell_j232 M 4 (nI (40 * (1 - lv) + (8 * 4 + tNt T 4))) = some M' ∧ JO v n lv S0 M0 k M' := by
  have hlv := h0.1
  have hk := hR.1.2.2.2.1
  have hcn := cOK_new (T := T) (so := 4) (by decide) h8 hT.1
  obtain ⟨M1, g1, r1, u41, u27, u30, -, u29, uq⟩ := r_232 hlv h0.2.2.1 hcn (by omega) hR 4
  rw [g1 0 (by rw [if_pos rfl])]
  have is22 : f_Model_is M1 28 = some (b2i (Nat.beq (tK v n k) 22)) := r_is r1.1 h0 (x := 22) (by decide)
  -- the amount, as the reference holds it
  have hAM : mf = 0 → (∀ now old, e now old = e now (fun _ => 0)) → AMT M1 (1 - lv) ec (32 + tNt T 4) (fun now => e now (fun _ => 0)) := by
    intro z hdep
    obtain ⟨is, i1, i2, i3, i4⟩ := his z
    have i2' : RCD M1 (500 * (1 - lv) + ec0) is := by
      unfold RCD
      rw [uq 39 (by decide), uq 40 (by decide)]
      exact i2
    exact ⟨ec0, is, e, by rw [u29]; exact h29, by rw [show 500 * (1 - lv) + ec0 + is.length = 500 * (1 - lv) + ec by omega]; exact u30, by omega, i2', okI_mono hD.1 i3, i4, hdep⟩
  by_cases c22 : tK v n k = 22
  · -- with a condition
    have hO := cs_if hC hk hD h8 hT.1 (by unfold tlU; rw [if_pos rfl]) c22 hvl hr
    have e267 : ∀ M2, f_Model_next M1 = some M2 → Model_tell_j267 M1 4 (nI (40 * (1 - lv) + (8 * 4 + tNt T 4))) 0 = Model_tell_j288 M2 4 (nI (40 * (1 - lv) + (8 * 4 + tNt T 4))) 1 := by
      intro M2 g2
      unfold Model_tell_j267
      rw [is22, mb_bd, c22, Nat.beq_refl, if_neg (by decide), if_pos rfl, g2, mb_bd]
    rcases r_next r1.1 h0 (by rw [c22]; decide) with ⟨ek, M2, g2, f2⟩ | ⟨ek, g2, q2⟩
    · have fo : FOc S0 2 (tP v n k) := by
        rcases hO with ⟨-, z⟩ | ⟨z, -⟩
        · exact z
        · omega
      rw [e267 M2 g2, f_tell288 f2]
      exact ⟨M2, rfl, Or.inl ⟨2, _, Or.inl fo, f2⟩⟩
    · rcases hO with ⟨z, -⟩ | ⟨-, S2, hS2⟩
      · omega
      rw [e267 _ g2]
      obtain ⟨r2, lf2⟩ := r1.nx q2
      have hdep : mf = 0 → ∀ now old, e now old = e now (fun _ => 0) := by
        intro z now old
        obtain ⟨e', -, hG⟩ := (hS2.cw.q z (by omega)).1.1 e rfl
        obtain ⟨r, -, -, hd⟩ := hG.dep
        exact hd now now old (fun _ => 0) (fun _ _ => rfl) (fun z => absurd z (by decide))
      have e41 : gI (pI M1 0 11 (nI (k + 1))) 0 41 = b2i (Nat.beq 4 3) := by rw [lf2.1.1 41 (by decide), u41]; exact h41
      obtain ⟨M3, g3, o3⟩ := j_288 (so := 4) (w := 0) (am := fun now => e now (fun _ => 0)) h0 (by decide) h8 hT.1 hS2 r2 e41 (by omega) (by omega) (by omega) hD (by rw [lf2.1.2.1 27 (by decide)]; exact u27) (fun z => absurd z (by decide)) (fun _ z => (hAM z (hdep z)).lf lf2 (Nat.le_refl _))
      refine ⟨M3, g3, ?_⟩
      rcases o3 with z | ⟨k3, ls, mf3, mp3, cz3, ec3, lc3, S3, y1, y2, y3, y4, y5, y6, y7, y8⟩
      · exact Or.inl z
      · have hW := fin_s1 (w := 0) y2.cw
        have hn4 : tNt T 4 + 1 = tNt (addC T 4 (cnB ls) 0 (fun now => e now (fun _ => 0))) 4 := by rw [tNt_addC, if_pos rfl]
        exact Or.inr ⟨k3, _, nN, pd, mf3, mp3, cz3, ec3, lc3, S3, by omega, c_fin y2 (fun z => absurd z (by decide)) hW hn4, y3, y8, hT.addC h8 (fun z => absurd z (by decide)) y4, y5, y6, y7⟩
  · -- without one
    have e267 : Model_tell_j267 M1 4 (nI (40 * (1 - lv) + (8 * 4 + tNt T 4))) 0 = Model_tell_j347 M1 4 (nI (40 * (1 - lv) + (8 * 4 + tNt T 4))) := by
      unfold Model_tell_j267 Model_tell_j288
      rw [is22, mb_bd, beq_f c22, if_pos (by rfl), wh_inr (r := M1) (by
        show Model_tell_l291 4 (nI (40 * (1 - lv) + (8 * 4 + tNt T 4))) M1 0 1 = some (.inr M1)
        unfold Model_tell_l291
        rw [if_pos rfl]), mb_bd]
    rw [e267]
    rcases j_semi h0 hC r1 hD hvl hK (Or.inl ⟨rfl, c22⟩) with ⟨M2, g2, f, p, fo, fm⟩ | ⟨g2, hR2, S2, hS2⟩
    · refine ⟨M2, ?_, Or.inl ⟨f, p, fo, fm⟩⟩
      unfold Model_tell_j347
      rw [g2, mb_bd, if_neg fm.nz.2]
    · rw [hr] at hS2
      have a2 : agZ [11] [] [] M1 (pI M1 0 11 (nI (k + 1))) := agZ.pI M1 11 _ (by decide)
      have lf2 : LF (1 - lv) ec lc M1 (pI M1 0 11 (nI (k + 1))) := ⟨a2.wk (by decide) (by decide) (by decide), rfl, fun _ _ => ⟨rfl, rfl, rfl, rfl, rfl, rfl⟩, fun _ _ => ⟨rfl, rfl⟩⟩
      have hczz : cz + (wl.length - ([] : List Nat).length) ≤ k + 1 := by
        show cz + (wl.length - 0) ≤ k + 1
        omega
      have hdep : mf = 0 → ∀ now old, e now old = e now (fun _ => 0) := by
        intro z now old
        have hG := (hS2.cw.q z (by show cz + (wl.length - 0) ≤ 400; omega)).2
        obtain ⟨r, -, -, hd⟩ := CG.dep (ol := false) hG
        exact hd now now old (fun _ => 0) (fun _ _ => rfl) (fun z => absurd z (by decide))
      have hW := fin_s0 (w := 0) h8 hS2.cw
      have hn4 : tNt T 4 + 1 = tNt (addC T 4 (cnB []) 0 (fun now => e now (fun _ => 0))) 4 := by rw [tNt_addC, if_pos rfl]
      have g347 := j_347 (so := 4) hlv h0.2.2.1 (by decide) h8 g2 hR2
      refine ⟨_, g347, Or.inr ⟨k + 1, _, nN, pd, mf, mp, _, ec, lc, S2, by omega, c_fin (b := cnB []) (w := 0) (am := fun now => e now (fun _ => 0)) hS2 (fun z => absurd z (by decide)) hW hn4, r_fin (so := 4) (w := 0) (am := fun now => e now (fun _ => 0)) hlv (by decide) h8 hT.1 (lc0 := lc) (ls := []) rfl hR2 (by rw [lf2.1.2.1 27 (by decide)]; exact u27) (fun _ i o l hi => by have hi : (none : Option (Bool × BSem)) = some (o, l) := hi; cases hi) (fun z => absurd z (by decide)) (fun _ z => (hAM z (hdep z)).lf lf2 (Nat.le_refl _)), hD, hT.addC h8 (fun z => absurd z (by decide)) (fun z => z), by omega, by omega, hczz⟩⟩
