/-! the class reads: a token at a time -/
theorem bd2_eta {α β : Type} (m : Option (α × β)) : bd2 m (fun a b => some (a, b)) = m := by
  cases m with
  | none => rfl
  | some p => rfl
noncomputable def Wc (S : St) (k : Nat) : Option St := wh (un2 Reader_understand_l48) (S, nI k)
def gdI : List (Nat × Nat) := [(1, 5), (1, 6), (1, 8), (1, 9), (1, 10), (1, 11), (1, 12), (1, 13), (1, 15), (1, 16), (3, 10), (3, 11), (3, 12)]
def gdA : List (Nat × Nat) := [(1, 1), (3, 1), (3, 2), (3, 4), (3, 5), (3, 6), (3, 7), (3, 8), (3, 9)]
def gdB : List (Nat × Nat) := [(3, 0)]
def gdL : List (Nat × Nat) := [(1, 14)]
def spI : List (Nat × Nat) := [(1, 7), (2, 2), (2, 3), (2, 4), (2, 5)]
def rdI : List (Nat × Nat) := [(1, 3), (1, 4), (1, 5), (1, 6), (1, 7), (1, 8), (1, 9), (1, 10), (1, 11), (1, 12), (1, 13), (1, 15), (1, 16), (2, 2), (2, 3), (2, 4), (2, 5), (3, 10), (3, 11), (3, 12)]
def rdJ : List (Nat × Nat) := [(1, 5), (1, 6), (1, 7), (1, 8), (1, 9), (1, 10), (1, 11), (1, 12), (1, 13), (1, 15), (1, 16), (2, 2), (2, 3), (2, 4), (2, 5), (3, 10), (3, 11), (3, 12)]
def rdL : List (Nat × Nat) := [(1, 14), (2, 6)]
def blN (f p mf mp : Nat) : Nat × Nat := if mf = 0 then (f, p) else if p < mp then (f, p) else if p = mp then (if f < mf then (f, p) else (mf, mp)) else (mf, mp)
theorem bl_ne {f p mf mp : Nat} (hf : ¬ f = 0) : ¬ (blN f p mf mp).1 = 0 := by
  unfold blN
  by_cases c1 : mf = 0
  · rw [if_pos c1]; exact hf
  rw [if_neg c1]
  by_cases c2 : p < mp
  · rw [if_pos c2]; exact hf
  rw [if_neg c2]
  by_cases c3 : p = mp
  · rw [if_pos c3]
    by_cases c4 : f < mf
    · rw [if_pos c4]; exact hf
    · rw [if_neg c4]; exact c1
  · rw [if_neg c3]; exact c1
theorem bl_le {f p mf mp : Nat} (hf : f ≤ 6) (hp : p ≤ 2000) (hm : mf ≤ 6) (hm2 : mp ≤ 2000) : (blN f p mf mp).1 ≤ 6 ∧ (blN f p mf mp).2 ≤ 2000 := by
  unfold blN
  by_cases c1 : mf = 0
  · rw [if_pos c1]; exact ⟨hf, hp⟩
  rw [if_neg c1]
  by_cases c2 : p < mp
  · rw [if_pos c2]; exact ⟨hf, hp⟩
  rw [if_neg c2]
  by_cases c3 : p = mp
  · rw [if_pos c3]
    by_cases c4 : f < mf
    · rw [if_pos c4]; exact ⟨hf, hp⟩
    · rw [if_neg c4]; exact ⟨hm, hm2⟩
  · rw [if_neg c3]; exact ⟨hm, hm2⟩
def fnd (nN : Nat → List Nat) (w : List Nat) : Nat → Option Nat
  | 0 => none
  | k + 1 => match fnd nN w k with
    | some j => some j
    | none => if nN k = w then some k else none
theorem fnd_up {nN : Nat → List Nat} {w : List Nat} {k j : Nat} (h : fnd nN w k = some j) : ∀ m, k ≤ m → fnd nN w m = some j := by
  intro m hm
  induction hm with
  | refl => exact h
  | @step m _ ih =>
    show (match fnd nN w m with | some j => some j | none => _) = _
    rw [ih]
theorem fnd_lt {nN : Nat → List Nat} {w : List Nat} : ∀ {k j : Nat}, fnd nN w k = some j → j < k
  | 0, _, h => by cases h
  | k + 1, j, h => by
    have h : (match fnd nN w k with | some j => some j | none => if nN k = w then some k else none) = some j := h
    cases hx : fnd nN w k with
    | some q =>
      rw [hx] at h
      cases h
      have := fnd_lt hx
      omega
    | none =>
      rw [hx] at h
      dsimp only at h
      by_cases c : nN k = w
      · rw [if_pos c] at h
        cases h
        omega
      · rw [if_neg c] at h
        cases h
def NMo (nN : Nat → List Nat) (nf : Nat) : Prop := ∀ f, f < nf → alW (nN f) ∧ (nN f).length ≤ 8
def CDt (T : Tx) (nN : Nat → List Nat) (pd mf mp : Nat) (S : St) : Prop := gI S 3 10 = nI (tNf T) ∧ gI S 3 11 = nI pd ∧ gI S 1 5 = nI mf ∧ (¬ mf = 0 → gI S 1 6 = nI mp) ∧ (∀ f, f < tNf T → gB S 3 0 f = lN (encC (nN f)) ∧ gA S 3 1 f = nI (tFr T f) ∧ (mf = 0 → gA S 3 2 f = nI (tFr T f + tMa T f - 1))) ∧ ∀ k, k < tNt T 1 → gA S 3 5 k = nI (tWt T k)
def TLd (tl : Nat → Nat) (S : St) : Prop := ∀ s, s < 5 → gA S 3 4 s = nI (tl s)
def CW0 (T : Tx) (lo mf cz : Nat) (S : St) : Prop := gI S 3 12 = nI (min cz 400) ∧ CLR lo S ∧ (mf = 0 → cz ≤ 400 → CQ T none cz S)
variable {v : Nat → Nat} {n : Nat} {S0 S S1 S' : St} {T : Tx} {ex : Option Sem} {nN : Nat → List Nat} {pd mf mp cz sd so ne sl lo k : Nat} {wq : Option Nat} {tl : Nat → Nat} {wl : List Nat} {vl : List Sem} {LI LA LB LL : List (Nat × Nat)}
def LK (v : Nat → Nat) (n : Nat) (S0 : St) (k : Nat) (S : St) : Prop := Wc S0 0 = Wc S k ∧ agG rdJ gdA gdB rdL S0 S ∧ SC v n k S
def FOc (S0 : St) (f p : Nat) : Prop := ∃ S', Wc S0 0 = some S' ∧ gI S' 1 4 = nI f ∧ gI S' 1 3 = nI p ∧ agG rdI gdA gdB rdL S0 S'
def OUT (v : Nat → Nat) (n : Nat) (S0 : St) (k : Nat) (P : St → Prop) : Prop := (k = 400 ∧ FOc S0 2 (tP v n k)) ∨ (k < 400 ∧ ∃ S', P S')
theorem CDt.ag (h : CDt T nN pd mf mp S) (a : agG LI LA LB LL S S') (h1 : (3, 10) ∉ LI ∧ (3, 11) ∉ LI ∧ (1, 5) ∉ LI ∧ (1, 6) ∉ LI) (h2 : (3, 1) ∉ LA ∧ (3, 2) ∉ LA ∧ (3, 5) ∉ LA) (h3 : (3, 0) ∉ LB) : CDt T nN pd mf mp S' := by
  unfold CDt
  rw [a.i 3 10 h1.1, a.i 3 11 h1.2.1, a.i 1 5 h1.2.2.1, a.i 1 6 h1.2.2.2, a.a 3 1 h2.1, a.a 3 2 h2.2.1, a.a 3 5 h2.2.2, a.b 3 0 h3]
  exact h
theorem TLd.ag (h : TLd tl S) (a : agG LI LA LB LL S S') (h2 : (3, 4) ∉ LA) : TLd tl S' := by
  unfold TLd
  rw [a.a 3 4 h2]
  exact h
theorem CLR.ag (h : CLR lo S) (a : agG LI LA LB LL S S') (h2 : (3, 7) ∉ LA ∧ (3, 8) ∉ LA ∧ (3, 9) ∉ LA) : CLR lo S' := by
  unfold CLR
  rw [a.a 3 7 h2.1, a.a 3 8 h2.2.1, a.a 3 9 h2.2.2]
  exact h
theorem CW0.ag (h : CW0 T lo mf cz S) (a : agG LI LA LB LL S S') (h1 : (3, 12) ∉ LI) (h2 : (3, 6) ∉ LA ∧ (3, 7) ∉ LA ∧ (3, 8) ∉ LA ∧ (3, 9) ∉ LA) : CW0 T lo mf cz S' := ⟨by rw [a.i 3 12 h1]; exact h.1, h.2.1.ag a h2.2, fun m c => (h.2.2 m c).ag a h2⟩
/-- all but the link and the state -/
def CPb (sd so ne sl lo : Nat) (wl : List Nat) (vl : List Sem) (T : Tx) (ex : Option Sem) (nN : Nat → List Nat) (pd mf mp cz : Nat) (tl : Nat → Nat) (wq : Option Nat) (S : St) : Prop := gI S 1 4 = 0 ∧ gI S 1 13 = 0 ∧ gI S 1 8 = nI sd ∧ gI S 1 9 = nI so ∧ gI S 1 12 = nI ne ∧ CDt T nN pd mf mp S ∧ TLd tl S ∧ (∀ w, wq = some w → gA S 3 5 (tNt T 1) = nI w) ∧ CW T ex so sl lo wl vl mf cz S
theorem CPb.ag (h : CPb sd so ne sl lo wl vl T ex nN pd mf mp cz tl wq S) (a : agG spI [] [] [(2, 6)] S S') : CPb sd so ne sl lo wl vl T ex nN pd mf mp cz tl wq S' := by
  obtain ⟨q1, q2, q3, q4, q5, q6, q7, q8, q9⟩ := h
  exact ⟨by rw [a.i 1 4 (by decide)]; exact q1, by rw [a.i 1 13 (by decide)]; exact q2, by rw [a.i 1 8 (by decide)]; exact q3, by rw [a.i 1 9 (by decide)]; exact q4, by rw [a.i 1 12 (by decide)]; exact q5, q6.ag a (by decide) (by decide) (by decide), q7.ag a (by decide), fun w z => by rw [a.a 3 5 (by decide)]; exact q8 w z, q9.ag a (by decide) (by decide)⟩
def CP0b (lo : Nat) (T : Tx) (nN : Nat → List Nat) (pd mf mp cz : Nat) (tl : Nat → Nat) (S : St) : Prop := gI S 1 4 = 0 ∧ gI S 1 13 = 0 ∧ gI S 1 12 = 0 ∧ CDt T nN pd mf mp S ∧ TLd tl S ∧ CW0 T lo mf cz S
theorem CP0b.ag (h : CP0b lo T nN pd mf mp cz tl S) (a : agG LI LA LB LL S S') (h1 : (1, 4) ∉ LI ∧ (1, 13) ∉ LI ∧ (1, 12) ∉ LI ∧ (3, 10) ∉ LI ∧ (3, 11) ∉ LI ∧ (1, 5) ∉ LI ∧ (1, 6) ∉ LI ∧ (3, 12) ∉ LI) (h2 : (3, 1) ∉ LA ∧ (3, 2) ∉ LA ∧ (3, 5) ∉ LA ∧ (3, 4) ∉ LA ∧ (3, 6) ∉ LA ∧ (3, 7) ∉ LA ∧ (3, 8) ∉ LA ∧ (3, 9) ∉ LA) (h3 : (3, 0) ∉ LB) : CP0b lo T nN pd mf mp cz tl S' := by
  obtain ⟨q1, q2, q3, q4, q5, q6⟩ := h
  exact ⟨by rw [a.i 1 4 h1.1]; exact q1, by rw [a.i 1 13 h1.2.1]; exact q2, by rw [a.i 1 12 h1.2.2.1]; exact q3, q4.ag a ⟨h1.2.2.2.1, h1.2.2.2.2.1, h1.2.2.2.2.2.1, h1.2.2.2.2.2.2.1⟩ ⟨h2.1, h2.2.1, h2.2.2.1⟩ h3, q5.ag a h2.2.2.2.1, q6.ag a h1.2.2.2.2.2.2.2 h2.2.2.2.2⟩
theorem SC.ag (h : SC v n k S) (a : agG LI LA LB LL S S') (h1 : (2, 1) ∉ LI ∧ (2, 2) ∉ LI ∧ (2, 3) ∉ LI ∧ (2, 4) ∉ LI ∧ (2, 5) ∉ LI) (h2 : (0, 0) ∉ LA) (h3 : (2, 6) ∉ LL) : SC v n k S' := by
  unfold SC TX
  rw [a.i 2 1 h1.1, a.i 2 2 h1.2.1, a.i 2 3 h1.2.2.1, a.i 2 4 h1.2.2.2.1, a.i 2 5 h1.2.2.2.2, a.a 0 0 h2, a.l 2 6 h3]
  exact h
theorem st_m1 : ∀ st, st ≤ 11 → ¬ nI st = -1 := by decide
theorem cl_end (hL : LK v n S0 k S) (hk : k ≤ 400) (h4 : gI S 1 4 = 0) (hz : tK v n k = 0) : Wc S0 0 = some S := by
  rw [hL.1]
  refine wh_inr ?_
  show Reader_understand_l48 S (nI k) = _
  unfold Reader_understand_l48
  rw [show (400 : Int32) = nI 400 from rfl, if_neg (by rw [mb_lt (by omega) (by omega)]; omega), if_pos h4, hL.2.2.2.2.2.1, hz, if_pos (by rfl)]
theorem cl_ref (hL : LK v n S0 k S) (hk : k ≤ 400) (h4 : gI S 1 4 = 0) (hz : ¬ tK v n k = 0) {x : Int32} {f : Nat} (hf : f = 1 ∨ f = 2) (hg : f_Reader_goOn S (nI (tK v n k)) = some (x, S1)) (a : agG gdI gdA gdB gdL S S1) (hc : (x = -1 ∧ f = 1) ∨ (¬ x = -1 ∧ f = 2 ∧ (¬ gI S1 1 13 = 0 ∨ k = 400))) : FOc S0 f (tP v n k) := by
  have hsc := hL.2.2.ag a (by decide) (by decide) (by decide)
  have h24 := hsc.2.2.2.2.1
  have a2 : agG rdI gdA gdB rdL S0 (pI (pI (pI S1 1 7 x) 1 4 (nI f)) 1 3 (nI (tP v n k))) := (((hL.2.1.wk (by decide) (by decide) (by decide) (by decide)).tr (a.wk (by decide) (by decide) (by decide) (by decide))).tr (agG.pI S1 1 7 _ (by decide))).tr ((agG.pI _ 1 4 _ (by decide)).tr (agG.pI _ 1 3 _ (by decide)))
  refine ⟨pI (pI (pI S1 1 7 x) 1 4 (nI f)) 1 3 (nI (tP v n k)), ?_, by rw [gI_n _ _ (fun z => by omega), gI_s], gI_s _ _ _ _, a2⟩
  have hk27 := (tK_lt (v := v) (n := n) k).1
  have hre : f_Reader_refuse (pI S1 1 7 x) (nI f) = some (pI (pI (pI S1 1 7 x) 1 4 (nI f)) 1 3 (nI (tP v n k))) := by
    unfold f_Reader_refuse
    rw [mb_nm, mb_nm, gI_n _ _ (fun z => by omega), gI_n _ _ (fun z => by omega), h24]
  have step : Reader_understand_l48 S (nI k) = some (.inl (pI (pI (pI S1 1 7 x) 1 4 (nI f)) 1 3 (nI (tP v n k)), nI (k + 1))) := by
    unfold Reader_understand_l48 Reader_understand_j117_l48 Reader_understand_j132_l48
    rw [show (400 : Int32) = nI 400 from rfl, if_neg (by rw [mb_lt (by omega) (by omega)]; omega), if_pos h4, hL.2.2.2.2.2.1, if_neg (by rw [l0, mb_eq (by omega) (by omega)]; exact hz), hg, mb_bd2, mb_nm, gI_s, gI_n _ _ (fun z => by omega)]
    rcases hc with ⟨e1, rfl⟩ | ⟨e1, rfl, e2⟩
    · rw [if_pos e1, show f_Reader_refuse (pI S1 1 7 x) 1 = _ from hre, mb_bd, mb_nm, nI_1]
    · rw [if_neg e1, show f_Reader_refuse (pI S1 1 7 x) 2 = _ from hre, mb_bd, mb_nm, nI_1]
      by_cases c : gI S1 1 13 = 0
      · rw [if_pos c]
        rcases e2 with z | z
        · exact absurd c z
        · rw [if_pos (by rw [z])]
      · rw [if_neg c]
  rw [hL.1]
  show wh (un2 Reader_understand_l48) (S, nI k) = _
  rw [wh_inl (t := (pI (pI (pI S1 1 7 x) 1 4 (nI f)) 1 3 (nI (tP v n k)), nI (k + 1))) step]
  refine wh_inr ?_
  show Reader_understand_l48 _ (nI (k + 1)) = _
  unfold Reader_understand_l48
  by_cases c : 400 < k + 1
  · rw [if_pos (by rw [show (400 : Int32) = nI 400 from rfl, mb_lt (by omega) (by omega)]; exact c)]
  · rw [if_neg (by rw [show (400 : Int32) = nI 400 from rfl, mb_lt (by omega) (by omega)]; exact c), gI_n _ _ (fun z => by omega), gI_s, if_neg (by rcases hf with rfl | rfl <;> decide)]
theorem cl_go (hL : LK v n S0 k S) (hk : k ≤ 400) (h4 : gI S 1 4 = 0) (hz : ¬ tK v n k = 0) {st : Nat} (hst : st ≤ 11) (hg : f_Reader_goOn S (nI (tK v n k)) = some (nI st, S1)) (a : agG gdI gdA gdB gdL S S1) (h13 : gI S1 1 13 = 0) {P : St → Prop} (hP : ∀ S2, LK v n S0 (k + 1) S2 → agG spI [] [] [(2, 6)] S1 S2 → gI S2 1 7 = nI st → P S2) : OUT v n S0 k P := by
  by_cases c : k = 400
  · exact Or.inl ⟨c, cl_ref hL hk h4 hz (Or.inr rfl) hg a (Or.inr ⟨st_m1 st hst, rfl, Or.inr c⟩)⟩
  · right
    refine ⟨by omega, ?_⟩
    have hk27 := (tK_lt (v := v) (n := n) k).1
    have hsc := hL.2.2.ag a (by decide) (by decide) (by decide)
    have a1 : agG [(1, 7)] [] [] [] S1 (pI S1 1 7 (nI st)) := agG.pI S1 1 7 _ (by decide)
    obtain ⟨S2, g2, a2, sc2⟩ := sc_next (hsc.ag a1 (by decide) (by decide) (by decide))
    have a12 : agG spI [] [] [(2, 6)] S1 S2 := (a1.wk (by decide) (by decide) (by decide) (by decide)).tr (a2.wk (by decide) (by decide) (by decide) (by decide))
    refine ⟨S2, hP S2 ⟨?_, (hL.2.1.tr (a.wk (by decide) (by decide) (by decide) (by decide))).tr (a12.wk (by decide) (by decide) (by decide) (by decide)), sc2⟩ a12 (by rw [a2.i 1 7 (by decide), gI_s])⟩
    rw [hL.1]
    refine wh_inl (t := (S2, nI (k + 1))) ?_
    show Reader_understand_l48 S (nI k) = _
    unfold Reader_understand_l48 Reader_understand_j132_l48
    rw [show (400 : Int32) = nI 400 from rfl, if_neg (by rw [mb_lt (by omega) (by omega)]; omega), if_pos h4, hL.2.2.2.2.2.1, if_neg (by rw [l0, mb_eq (by omega) (by omega)]; exact hz), hg, mb_bd2, mb_nm, gI_s, if_neg (st_m1 st hst), gI_n _ _ (fun z => by omega), if_pos h13, if_neg (by rw [mb_eq (by omega) (by omega)]; exact c), g2, mb_bd, mb_nm, nI_1]
/-! small things of the draft -/
theorem c_blame (h5 : gI S 1 5 = nI mf) (h6 : ¬ mf = 0 → gI S 1 6 = nI mp) (hm : mf ≤ 6) (hm2 : mp ≤ 2000) {f p : Nat} (hf : f ≤ 6) (hp : p ≤ 2000) : ∃ S', f_Reader_blame S (nI f) (nI p) = some S' ∧ agG [(1, 5), (1, 6)] [] [] [] S S' ∧ gI S' 1 5 = nI (blN f p mf mp).1 ∧ gI S' 1 6 = nI (blN f p mf mp).2 := by
  have put : ∃ S', Reader_blame_j41 S (nI f) (nI p) = some S' ∧ agG [(1, 5), (1, 6)] [] [] [] S S' ∧ gI S' 1 5 = nI f ∧ gI S' 1 6 = nI p := by
    unfold Reader_blame_j41 Reader_blame_j51
    rw [mb_nm, mb_nm]
    exact ⟨_, rfl, (agG.pI S 1 5 _ (by decide)).tr (agG.pI _ 1 6 _ (by decide)), by rw [gI_n _ _ (fun z => by omega), gI_s], gI_s _ _ _ _⟩
  unfold f_Reader_blame Reader_blame_j28 Reader_blame_j24 Reader_blame_j29 Reader_blame_j51 blN
  rw [h5, if_neg (show ¬ (1 : Int32) = 0 by decide), if_pos (show (0 : Int32) = 0 from rfl)]
  by_cases c1 : mf = 0
  · rw [if_pos c1]
    have e0 : nI mf = 0 := by rw [c1]; rfl
    rw [if_pos e0, if_pos e0]
    by_cases d1 : nI p < gI S 1 6
    · rw [if_pos d1]; exact put
    rw [if_neg d1]
    by_cases d2 : nI p = gI S 1 6
    · rw [if_pos d2]
      by_cases d3 : nI mf ≤ nI f
      · rw [if_pos d3]; exact put
      · rw [if_neg d3]; exact put
    · rw [if_neg d2]; exact put
  · have e0 : ¬ nI mf = 0 := by rw [l0, mb_eq (by omega) (by omega)]; exact c1
    rw [if_neg c1, if_neg e0, if_neg e0, h6 c1]
    have keep : ∃ S', (some S : Option St) = some S' ∧ agG [(1, 5), (1, 6)] [] [] [] S S' ∧ gI S' 1 5 = nI mf ∧ gI S' 1 6 = nI mp := ⟨S, rfl, agG.rf S, h5, h6 c1⟩
    by_cases d1 : p < mp
    · rw [if_pos (by rw [mb_lt (by omega) (by omega)]; exact d1), if_pos d1]; exact put
    rw [if_neg (by rw [mb_lt (by omega) (by omega)]; exact d1), if_neg d1]
    by_cases d2 : p = mp
    · rw [if_pos (by rw [d2]), if_pos d2]
      by_cases d3 : f < mf
      · rw [if_neg (by rw [mb_le (by omega) (by omega)]; omega), if_pos d3]; exact put
      · rw [if_pos (by rw [mb_le (by omega) (by omega)]; omega), if_neg d3]; exact keep
    · rw [if_neg (by rw [mb_eq (by omega) (by omega)]; exact d2), if_neg d2]; exact keep
theorem c_named (h : CDt T nN pd mf mp S) (hn6 : tNf T ≤ 6) (hN : NMo nN (tNf T)) {w : List Nat} (hw : alW w) (hl : w.length ≤ 8) : f_Book_fieldNamed S (lN (encC w)) = some (oI (fnd nN w (tNf T))) := by
  have key := wh_ix (f := Book_fieldNamed_l2 S (lN (encC w))) (s := (0 : Int32)) (tNf T) (fun f x => x = nI f ∧ fnd nN w f = none) (fun r => r = oI (fnd nN w (tNf T))) ⟨rfl, rfl⟩ ?_ ?_
  · obtain ⟨r, h1, h2⟩ := key
    unfold f_Book_fieldNamed
    rw [h1, h2]
  · intro f x hf hI
    obtain ⟨e1, e2⟩ := hI
    subst e1
    have hc : lg_cmp (gB S 3 0 f) (lN (encC w)) = 0 ↔ nN f = w := by
      rw [lg_cmp_eq, (h.2.2.2.2.1 f hf).1]
      exact encC_eq (hN f hf).1 hw (hN f hf).2 hl
    have body : Book_fieldNamed_l2 S (lN (encC w)) (nI f) = (if lg_cmp (gB S 3 0 f) (lN (encC w)) = 0 then some (.inr (nI f)) else some (.inl (nI (f + 1)))) := by
      unfold Book_fieldNamed_l2
      rw [h.1, if_neg (by rw [mb_le (by omega) (by omega)]; omega), if_neg (by rw [mb_le (by omega) (by omega)]; omega), mb_in (by omega) (by decide), mb_gd, mb_cl (by omega), mb_nm, nI_1]
    have hs : fnd nN w (f + 1) = (match fnd nN w f with | some j => some j | none => if nN f = w then some f else none) := rfl
    rw [e2] at hs
    dsimp only at hs
    by_cases c : nN f = w
    · right
      rw [if_pos c] at hs
      refine ⟨nI f, by rw [body, if_pos (hc.mpr c)], ?_⟩
      rw [fnd_up hs (tNf T) (by omega)]
      rfl
    · left
      rw [if_neg c] at hs
      exact ⟨nI (f + 1), by rw [body, if_neg (fun z => c (hc.mp z))], rfl, hs⟩
  · intro x hI
    obtain ⟨e1, e2⟩ := hI
    subst e1
    refine ⟨-1, ?_, by rw [e2]; rfl⟩
    unfold Book_fieldNamed_l2 Book_fieldNamed_j38_l2
    rw [h.1, if_pos (by rw [mb_le (by omega) (by omega)]; omega)]
def naM (o : Option Nat) (p mf mp : Nat) : Nat × Nat := match o with
  | none => blN 4 p mf mp
  | some _ => (mf, mp)
theorem na_le {o : Option Nat} {p : Nat} (hp : p ≤ 2000) (hm : mf ≤ 6) (hm2 : mp ≤ 2000) : (naM o p mf mp).1 ≤ 6 ∧ (naM o p mf mp).2 ≤ 2000 := by
  cases o with
  | none => exact bl_le (by decide) hp hm hm2
  | some _ => exact ⟨hm, hm2⟩
theorem CDt.bl {mf' mp' : Nat} {S' : St} (h : CDt T nN pd mf mp S) (a : agG [(1, 5), (1, 6)] [] [] [] S S') (h5 : gI S' 1 5 = nI mf') (h6 : gI S' 1 6 = nI mp') (hne : ¬ mf' = 0) : CDt T nN pd mf' mp' S' := ⟨by rw [a.i 3 10 (by decide)]; exact h.1, by rw [a.i 3 11 (by decide)]; exact h.2.1, h5, fun _ => h6, fun f hf => ⟨by rw [a.b 3 0 (by decide)]; exact (h.2.2.2.2.1 f hf).1, by rw [a.a 3 1 (by decide)]; exact (h.2.2.2.2.1 f hf).2.1, fun z => absurd z hne⟩, by rw [a.a 3 5 (by decide)]; exact h.2.2.2.2.2⟩
/-- what the parser needs to know of the draft at all times -/
def DOK (T : Tx) (nN : Nat → List Nat) (mf mp : Nat) : Prop := tNf T ≤ 6 ∧ NMo nN (tNf T) ∧ mf ≤ 6 ∧ mp ≤ 2000
theorem g_nameIn (h : CPb sd so ne sl lo wl vl T ex nN pd mf mp cz tl wq S) (hD : DOK T nN mf mp) (hsc : SC v n k S) (hK : tK v n k = 2) {x : Nat} (hx : (x = 2 ∨ (x = 26 ∧ (mf = 0 → so = 3)))) (hvl : vl.length ≤ 60) : ∃ S', f_Reader_nameInCode S (nI x) = some (11, S') ∧ agG gdI gdA gdB gdL S S' ∧ CPb sd so ne sl lo wl (stI (x, (fnd nN (tWd v n k) (tNf T)).getD 0) vl) T ex nN pd (naM (fnd nN (tWd v n k) (tNf T)) (tP v n k) mf mp).1 (naM (fnd nN (tWd v n k) (tNf T)) (tP v n k) mf mp).2 (cz + 1) tl wq S' := by
  obtain ⟨q1, q2, q3, q4, q5, q6, q7, q8, q9⟩ := h
  obtain ⟨n6, hN, hm, hm2⟩ := hD
  obtain ⟨hal, hlen⟩ := tk_2 hK
  have hn2 := hsc.1.1
  have hpl := tP_le (v := v) (n := n) k
  have hx32 : x < 32 := by rcases hx with rfl | ⟨rfl, -⟩ <;> decide
  unfold f_Reader_nameInCode Reader_nameInCode_j32
  rw [hsc.2.2.2.2.2.2 hK, c_named q6 n6 hN hal hlen, mb_bd]
  cases hf : fnd nN (tWd v n k) (tNf T) with
  | none =>
    rw [if_pos (by rfl), hsc.2.2.2.2.1]
    obtain ⟨S1, g1, a1, e5, e6⟩ := c_blame (f := 4) (p := tP v n k) q6.2.2.1 q6.2.2.2.1 hm hm2 (by decide) (by omega)
    have g1 : f_Reader_blame S 4 (nI (tP v n k)) = some S1 := g1
    have hne : ¬ (blN 4 (tP v n k) mf mp).1 = 0 := bl_ne (by decide)
    have c1 := (q9.ag a1 (by decide) (by decide)).bad (mf' := (blN 4 (tP v n k) mf mp).1) (vl' := vl) hne
    obtain ⟨S2, g2, a2, c2⟩ := ce_emit (k := x) (d := 0) c1 hx32 (by decide) n6 (fun z => absurd z hne)
    rw [g1, mb_bd, c1.2.1, show (if (0 : Int32) < oI none then oI none else (0 : Int32)) = nI 0 from rfl, g2, mb_bd]
    have a12 : agG gdI gdA gdB gdL S S2 := (a1.wk (by decide) (by decide) (by decide) (by decide)).tr (a2.wk (by decide) (by decide) (by decide) (by decide))
    have cd2 := (q6.bl a1 e5 e6 hne).ag a2 (by decide) (by decide) (by decide)
    refine ⟨S2, rfl, a12, ?_, ?_, ?_, ?_, ?_, cd2, (q7.ag a1 (by decide)).ag a2 (by decide), fun w z => ?_, c2⟩
    · rw [a2.i 1 4 (by decide), a1.i 1 4 (by decide)]; exact q1
    · rw [a2.i 1 13 (by decide), a1.i 1 13 (by decide)]; exact q2
    · rw [a2.i 1 8 (by decide), a1.i 1 8 (by decide)]; exact q3
    · rw [a2.i 1 9 (by decide), a1.i 1 9 (by decide)]; exact q4
    · rw [a2.i 1 12 (by decide), a1.i 1 12 (by decide)]; exact q5
    · rw [a2.a 3 5 (by decide), a1.a 3 5 (by decide)]; exact q8 w z
  | some f =>
    have hlt := fnd_lt hf
    have e : (if (0 : Int32) < oI (some f) then oI (some f) else (0 : Int32)) = nI f := by
      show (if (0 : Int32) < nI f then nI f else 0) = nI f
      by_cases c : 0 < f
      · rw [if_pos (by rw [l0, mb_lt (by omega) (by omega)]; exact c)]
      · rw [show f = 0 by omega]
        rfl
    rw [if_neg (show ¬ oI (some f) = -1 from nI_m1 (by omega)), e, q9.2.1]
    obtain ⟨S2, g2, a2, c2⟩ := ce_emit (k := x) (d := f) q9 hx32 (by omega) n6 (fun z => ⟨Or.inr (Or.inl ⟨by rcases hx with y | ⟨y, -⟩; exact Or.inl y; exact Or.inr y, hlt, hvl⟩), by omega, fun y => by
      rcases hx with w | ⟨-, w⟩
      · omega
      · rw [w z]; rfl⟩)
    rw [g2, mb_bd]
    refine ⟨S2, rfl, a2.wk (by decide) (by decide) (by decide) (by decide), ?_, ?_, ?_, ?_, ?_, q6.ag a2 (by decide) (by decide) (by decide), q7.ag a2 (by decide), fun w z => ?_, c2⟩
    · rw [a2.i 1 4 (by decide)]; exact q1
    · rw [a2.i 1 13 (by decide)]; exact q2
    · rw [a2.i 1 8 (by decide)]; exact q3
    · rw [a2.i 1 9 (by decide)]; exact q4
    · rw [a2.i 1 12 (by decide)]; exact q5
    · rw [a2.a 3 5 (by decide)]; exact q8 w z
theorem go_8 (h : gI S 1 7 = nI 8) (x : Int32) : f_Reader_goOn S x = f_Reader_goOnAtUnit S x := by
  unfold f_Reader_goOn Reader_goOn_j229
  rw [h, mb_nm, if_neg (by decide), if_neg (by decide), if_neg (by decide), if_neg (by decide), if_neg (by decide), if_neg (by decide), if_neg (by decide), if_neg (by decide), if_pos (by rfl)]
  exact bd2_eta _
theorem go_9 (h : gI S 1 7 = nI 9) (x : Int32) : f_Reader_goOn S x = f_Reader_goOnAtUnit S x := by
  unfold f_Reader_goOn Reader_goOn_j229
  rw [h, mb_nm, if_neg (by decide), if_neg (by decide), if_neg (by decide), if_neg (by decide), if_neg (by decide), if_neg (by decide), if_neg (by decide), if_neg (by decide), if_neg (by decide), if_pos (by rfl)]
  exact bd2_eta _
theorem go_11 (h : gI S 1 7 = nI 11) (x : Int32) : f_Reader_goOn S x = if gI S 1 12 ≤ 0 then f_Reader_goOnBehindExpression S x else f_Reader_goOnInBrackets S x := by
  unfold f_Reader_goOn Reader_goOn_j228
  rw [h, mb_nm, if_neg (by decide), if_neg (by decide), if_neg (by decide), if_neg (by decide), if_neg (by decide), if_neg (by decide), if_neg (by decide), if_neg (by decide), if_neg (by decide), if_neg (by decide), if_neg (by decide), if_pos (by rfl)]
  by_cases c : gI S 1 12 ≤ 0
  · rw [if_pos c, if_pos c]
    exact bd2_eta _
  · rw [if_neg c, if_neg c]
    exact bd2_eta _
theorem go_11e (h : gI S 1 7 = nI 11) (h12 : gI S 1 12 = 0) (x : Int32) : f_Reader_goOn S x = f_Reader_goOnBehindExpression S x := by
  rw [go_11 h, h12, if_pos (by decide)]
theorem go_11b (h : gI S 1 7 = nI 11) {ne : Nat} (h12 : gI S 1 12 = nI ne) (h0 : 0 < ne) (hn : ne ≤ 7) (x : Int32) : f_Reader_goOn S x = f_Reader_goOnInBrackets S x := by
  rw [go_11 h, h12, if_neg (by rw [l0, mb_le (by omega) (by omega)]; omega)]
theorem nkI {x c : Nat} (hx : x < 27) (hc : c < 27) (h : ¬ x = c) : ¬ nI x = nI c := by rw [mb_eq (by omega) (by omega)]; exact h
theorem go_89 {st : Nat} (hst : st = 8 ∨ st = 9) (h : gI S 1 7 = nI st) (x : Int32) : f_Reader_goOn S x = f_Reader_goOnAtUnit S x := by
  rcases hst with rfl | rfl
  · exact go_8 h x
  · exact go_9 h x
/-- the phase inside a condition or an amount -/
def CP (v : Nat → Nat) (n : Nat) (S0 : St) (k st sd so ne sl lo : Nat) (wl : List Nat) (vl : List Sem) (T : Tx) (ex : Option Sem) (nN : Nat → List Nat) (pd mf mp cz : Nat) (tl : Nat → Nat) (wq : Option Nat) (S : St) : Prop := LK v n S0 k S ∧ gI S 1 7 = nI st ∧ CPb sd so ne sl lo wl vl T ex nN pd mf mp cz tl wq S
theorem cs_name {st : Nat} (h : CP v n S0 k st sd so ne sl lo wl vl T ex nN pd mf mp cz tl wq S) (hk : k ≤ 400) (hD : DOK T nN mf mp) (hst : st = 8 ∨ st = 9) (hK : tK v n k = 2) (hvl : vl.length ≤ 60) : OUT v n S0 k (fun S' => CP v n S0 (k + 1) 11 sd so ne sl lo wl (stI (2, (fnd nN (tWd v n k) (tNf T)).getD 0) vl) T ex nN pd (naM (fnd nN (tWd v n k) (tNf T)) (tP v n k) mf mp).1 (naM (fnd nN (tWd v n k) (tNf T)) (tP v n k) mf mp).2 (cz + 1) tl wq S') := by
  obtain ⟨hL, h7, hb⟩ := h
  obtain ⟨S1, g1, a1, c1⟩ := g_nameIn hb hD hL.2.2 hK (x := 2) (Or.inl rfl) hvl
  refine cl_go (S1 := S1) hL hk hb.1 (by rw [hK]; decide) (st := 11) (by decide) ?_ a1 c1.2.1 (fun S2 l2 a2 e2 => ⟨l2, e2, c1.ag a2⟩)
  rw [go_89 hst h7, hK]
  unfold f_Reader_goOnAtUnit
  rw [if_pos (by rfl), show f_Reader_nameInCode S 2 = _ from g1, mb_bd2]
  rfl
theorem cs_oldname (h : CP v n S0 k 10 sd so ne sl lo wl vl T ex nN pd mf mp cz tl wq S) (hk : k ≤ 400) (hD : DOK T nN mf mp) (hs3 : mf = 0 → so = 3) (hK : tK v n k = 2) (hvl : vl.length ≤ 60) : OUT v n S0 k (fun S' => CP v n S0 (k + 1) 11 sd so ne sl lo wl (stI (26, (fnd nN (tWd v n k) (tNf T)).getD 0) vl) T ex nN pd (naM (fnd nN (tWd v n k) (tNf T)) (tP v n k) mf mp).1 (naM (fnd nN (tWd v n k) (tNf T)) (tP v n k) mf mp).2 (cz + 1) tl wq S') := by
  obtain ⟨hL, h7, hb⟩ := h
  obtain ⟨S1, g1, a1, c1⟩ := g_nameIn hb hD hL.2.2 hK (x := 26) (Or.inr ⟨rfl, hs3⟩) hvl
  refine cl_go (S1 := S1) hL hk hb.1 (by rw [hK]; decide) (st := 11) (by decide) ?_ a1 c1.2.1 (fun S2 l2 a2 e2 => ⟨l2, e2, c1.ag a2⟩)
  unfold f_Reader_goOn Reader_goOn_j207
  rw [h7, mb_nm, hK, if_neg (by decide), if_neg (by decide), if_neg (by decide), if_neg (by decide), if_neg (by decide), if_neg (by decide), if_neg (by decide), if_neg (by decide), if_neg (by decide), if_neg (by decide), if_pos (by rfl), if_pos (by rfl), show f_Reader_nameInCode S 26 = _ from g1, mb_bd2]
  rfl
theorem cs_int {st : Nat} (h : CP v n S0 k st sd so ne sl lo wl vl T ex nN pd mf mp cz tl wq S) (hk : k ≤ 400) (hD : DOK T nN mf mp) (hst : st = 8 ∨ st = 9) (hK : tK v n k = 3) (hvl : vl.length ≤ 60) : OUT v n S0 k (fun S' => CP v n S0 (k + 1) 11 sd so ne sl lo wl (stI (3, tN v n k) vl) T ex nN pd mf mp (cz + 1) tl wq S') := by
  obtain ⟨hL, h7, q1, q2, q3, q4, q5, q6, q7, q8, q9⟩ := h
  have h3 := tk_3 hK
  obtain ⟨S1, g1, a1, c1⟩ := ce_emit (k := 3) (d := tN v n k) q9 (by decide) h3 hD.1 (fun _ => ⟨Or.inl ⟨rfl, h3, hvl⟩, by omega, fun z => by cases z⟩)
  have c1 : CPb sd so ne sl lo wl (stI (3, tN v n k) vl) T ex nN pd mf mp (cz + 1) tl wq S1 := ⟨by rw [a1.i 1 4 (by decide)]; exact q1, by rw [a1.i 1 13 (by decide)]; exact q2, by rw [a1.i 1 8 (by decide)]; exact q3, by rw [a1.i 1 9 (by decide)]; exact q4, by rw [a1.i 1 12 (by decide)]; exact q5, q6.ag a1 (by decide) (by decide) (by decide), q7.ag a1 (by decide), fun w z => by rw [a1.a 3 5 (by decide)]; exact q8 w z, c1⟩
  refine cl_go (S1 := S1) hL hk q1 (by rw [hK]; decide) (st := 11) (by decide) ?_ (a1.wk (by decide) (by decide) (by decide) (by decide)) c1.2.1 (fun S2 l2 a2 e2 => ⟨l2, e2, c1.ag a2⟩)
  rw [go_89 hst h7, hK]
  unfold f_Reader_goOnAtUnit
  rw [if_neg (by decide), if_pos (by rfl), hL.2.2.2.2.2.2.2.1 hK, q9.2.1, show f_Book_emit S (nI sl) 3 (nI (tN v n k)) = _ from g1, mb_bd]
  rfl
/-- where no unit is -/
theorem cs_nounit {st : Nat} (h : CP v n S0 k st sd so ne sl lo wl vl T ex nN pd mf mp cz tl wq S) (hk : k ≤ 400) (hst : st = 8 ∨ st = 9) (hK : ¬ tK v n k = 0 ∧ ¬ tK v n k = 2 ∧ ¬ tK v n k = 3 ∧ ¬ tK v n k = 12 ∧ ¬ tK v n k = 26 ∧ (st = 8 → ¬ tK v n k = 25)) : FOc S0 1 (tP v n k) := by
  obtain ⟨hL, h7, hb⟩ := h
  have h27 := (tK_lt (v := v) (n := n) k).1
  refine cl_ref (S1 := S) hL hk hb.1 hK.1 (Or.inl rfl) (x := -1) ?_ (agG.rf S) (Or.inl ⟨rfl, rfl⟩)
  rw [go_89 hst h7]
  unfold f_Reader_goOnAtUnit Reader_goOnAtUnit_j69
  rw [if_neg (show ¬ nI (tK v n k) = 2 from nkI h27 (by decide) hK.2.1), if_neg (show ¬ nI (tK v n k) = 3 from nkI h27 (by decide) hK.2.2.1), if_neg (show ¬ nI (tK v n k) = 12 from nkI h27 (by decide) hK.2.2.2.1)]
  by_cases c : tK v n k = 25
  · have hs : st = 9 := by
      rcases hst with z | z
      · exact absurd c (hK.2.2.2.2.2 z)
      · exact z
    rw [if_pos (by rw [c]; rfl), h7, hs, if_neg (by decide)]
  · rw [if_neg (show ¬ nI (tK v n k) = 25 from nkI h27 (by decide) c), if_neg (show ¬ nI (tK v n k) = 26 from nkI h27 (by decide) hK.2.2.2.2.1)]
theorem cs_noold (h : CP v n S0 k 10 sd so ne sl lo wl vl T ex nN pd mf mp cz tl wq S) (hk : k ≤ 400) (hz : ¬ tK v n k = 0) (hK : ¬ tK v n k = 2) : FOc S0 1 (tP v n k) := by
  obtain ⟨hL, h7, hb⟩ := h
  have h27 := (tK_lt (v := v) (n := n) k).1
  refine cl_ref (S1 := S) hL hk hb.1 hz (Or.inl rfl) (x := -1) ?_ (agG.rf S) (Or.inl ⟨rfl, rfl⟩)
  unfold f_Reader_goOn Reader_goOn_j207
  rw [h7, mb_nm, if_neg (by decide), if_neg (by decide), if_neg (by decide), if_neg (by decide), if_neg (by decide), if_neg (by decide), if_neg (by decide), if_neg (by decide), if_neg (by decide), if_neg (by decide), if_pos (by rfl), if_neg (show ¬ nI (tK v n k) = 2 from nkI h27 (by decide) hK)]
/-- old -/
theorem cs_old {st : Nat} (h : CP v n S0 k st sd so ne sl lo wl vl T ex nN pd mf mp cz tl wq S) (hk : k ≤ 400) (hD : DOK T nN mf mp) (hso : so < 6) (hst : st = 8 ∨ st = 9) (hK : tK v n k = 26) : OUT v n S0 k (fun S' => CP v n S0 (k + 1) 10 sd so ne sl lo wl vl T ex nN pd (if so = 3 then (mf, mp) else blN 5 (tP v n k) mf mp).1 (if so = 3 then (mf, mp) else blN 5 (tP v n k) mf mp).2 cz tl wq S') := by
  obtain ⟨hL, h7, hb⟩ := h
  have hb' := hb
  obtain ⟨q1, q2, q3, q4, q5, q6, q7, q8, q9⟩ := hb
  have hn2 := hL.2.2.1.1
  have hpl := tP_le (v := v) (n := n) k
  by_cases c : so = 3
  · rw [if_pos c]
    refine cl_go (S1 := S) hL hk q1 (by rw [hK]; decide) (st := 10) (by decide) ?_ (agG.rf S) q2 (fun S2 l2 a2 e2 => ⟨l2, e2, hb'.ag a2⟩)
    rw [go_89 hst h7, hK]
    unfold f_Reader_goOnAtUnit Reader_goOnAtUnit_j118
    rw [if_neg (by decide), if_neg (by decide), if_neg (by decide), if_neg (by decide), if_pos (by rfl), q4, if_pos (by rw [c]; rfl)]
    rfl
  · rw [if_neg c]
    obtain ⟨S1, g1, a1, e5, e6⟩ := c_blame (f := 5) (p := tP v n k) q6.2.2.1 q6.2.2.2.1 hD.2.2.1 hD.2.2.2 (by decide) (by omega)
    have hne : ¬ (blN 5 (tP v n k) mf mp).1 = 0 := bl_ne (by decide)
    have c1 : CPb sd so ne sl lo wl vl T ex nN pd (blN 5 (tP v n k) mf mp).1 (blN 5 (tP v n k) mf mp).2 cz tl wq S1 := ⟨by rw [a1.i 1 4 (by decide)]; exact q1, by rw [a1.i 1 13 (by decide)]; exact q2, by rw [a1.i 1 8 (by decide)]; exact q3, by rw [a1.i 1 9 (by decide)]; exact q4, by rw [a1.i 1 12 (by decide)]; exact q5, q6.bl a1 e5 e6 hne, q7.ag a1 (by decide), fun w z => by rw [a1.a 3 5 (by decide)]; exact q8 w z, (q9.ag a1 (by decide) (by decide)).bad hne⟩
    refine cl_go (S1 := S1) hL hk q1 (by rw [hK]; decide) (st := 10) (by decide) ?_ (a1.wk (by decide) (by decide) (by decide) (by decide)) c1.2.1 (fun S2 l2 a2 e2 => ⟨l2, e2, c1.ag a2⟩)
    rw [go_89 hst h7, hK]
    unfold f_Reader_goOnAtUnit Reader_goOnAtUnit_j118
    rw [if_neg (by decide), if_neg (by decide), if_neg (by decide), if_neg (by decide), if_pos (by rfl), q4, if_neg (by rw [l3, mb_eq (by omega) (by omega)]; exact c), hL.2.2.2.2.2.2.1, show f_Reader_blame S 5 (nI (tP v n k)) = _ from g1, mb_bd]
    rfl
/-- a bracket opens -/
theorem cs_open {st : Nat} (h : CP v n S0 k st sd so ne sl lo wl vl T ex nN pd mf mp cz tl wq S) (hk : k ≤ 400) (hst : st = 8 ∨ st = 9) (hK : tK v n k = 12) (hne : ne ≤ 6) (hwl : wl.length < 40) : (ne = 6 ∧ FOc S0 2 (tP v n k)) ∨ (ne < 6 ∧ OUT v n S0 k (fun S' => CP v n S0 (k + 1) 9 sd so (ne + 1) sl lo (12 :: wl) vl T ex nN pd mf mp cz tl wq S')) := by
  obtain ⟨hL, h7, q1, q2, q3, q4, q5, q6, q7, q8, q9⟩ := h
  have run : ∀ t : Int32, isB t = true → ∃ S1, Reader_goOnAtUnit_j136 S t = some (9, S1) ∧ agG [(1, 11), (1, 12), (1, 13)] [(1, 1)] [] [] S S1 ∧ gI S1 1 13 = t ∧ gI S1 1 12 = nI (ne + 1) ∧ CW T ex so sl lo (12 :: wl) vl mf cz S1 := by
    intro t ht
    have a0 : agG [(1, 11), (1, 12), (1, 13)] [(1, 1)] [] [] S (pI (pI S 1 13 t) 1 12 (nI (ne + 1))) := (agG.pI S 1 13 _ (by decide)).tr (agG.pI _ 1 12 _ (by decide))
    have a0' : agG [(1, 12), (1, 13)] [] [] [] S (pI (pI S 1 13 t) 1 12 (nI (ne + 1))) := (agG.pI S 1 13 _ (by decide)).tr (agG.pI _ 1 12 _ (by decide))
    obtain ⟨S1, g1, a1, c1⟩ := ce_await (x := 12) (q9.ag a0' (by decide) (by decide)) (Or.inr (Or.inr rfl)) hwl
    unfold Reader_goOnAtUnit_j136
    rw [ht, mb_gd, mb_nm, gI_n _ _ (fun z => by omega), q5, nI_1, mb_nm, show f_Reader_await _ 12 = _ from g1, mb_bd]
    exact ⟨S1, rfl, a0.tr (a1.wk (by decide) (by decide) (by decide) (by decide)), by rw [a1.i 1 13 (by decide), gI_n _ _ (fun z => by omega), gI_s], by rw [a1.i 1 12 (by decide), gI_s], c1⟩
  have hd : f_Reader_goOn S (nI (tK v n k)) = (if nI ne < 6 then Reader_goOnAtUnit_j136 S 0 else Reader_goOnAtUnit_j136 S 1) := by
    rw [go_89 hst h7, hK]
    unfold f_Reader_goOnAtUnit
    rw [if_neg (by decide), if_neg (by decide), if_pos (by rfl), q5]
  by_cases c : ne < 6
  · right
    refine ⟨c, ?_⟩
    obtain ⟨S1, g1, a1, e13, e12, c1⟩ := run 0 rfl
    have c1 : CPb sd so (ne + 1) sl lo (12 :: wl) vl T ex nN pd mf mp cz tl wq S1 := ⟨by rw [a1.i 1 4 (by decide)]; exact q1, e13, by rw [a1.i 1 8 (by decide)]; exact q3, by rw [a1.i 1 9 (by decide)]; exact q4, e12, q6.ag a1 (by decide) (by decide) (by decide), q7.ag a1 (by decide), fun w z => by rw [a1.a 3 5 (by decide)]; exact q8 w z, c1⟩
    refine cl_go (S1 := S1) hL hk q1 (by rw [hK]; decide) (st := 9) (by decide) ?_ (a1.wk (by decide) (by decide) (by decide) (by decide)) c1.2.1 (fun S2 l2 a2 e2 => ⟨l2, e2, c1.ag a2⟩)
    rw [hd, if_pos (by rw [l6, mb_lt (by omega) (by omega)]; exact c), g1]
    rfl
  · left
    refine ⟨by omega, ?_⟩
    obtain ⟨S1, g1, a1, e13, e12, c1⟩ := run 1 rfl
    refine cl_ref (S1 := S1) hL hk q1 (by rw [hK]; decide) (Or.inr rfl) (x := 9) ?_ (a1.wk (by decide) (by decide) (by decide) (by decide)) (Or.inr ⟨by decide, rfl, Or.inl (by rw [e13]; decide)⟩)
    rw [hd, if_neg (by rw [l6, mb_lt (by omega) (by omega)]; exact c), g1]
/-- not -/
theorem cs_not (h : CP v n S0 k 8 sd so ne sl lo wl vl T ex nN pd mf mp cz tl wq S) (hk : k ≤ 400) (hK : tK v n k = 25) (hwl : wl.length < 40) : OUT v n S0 k (fun S' => CP v n S0 (k + 1) 8 sd so ne sl lo (if wl.headD 0 = 25 then wl.tail else 25 :: wl) vl T ex nN pd mf mp cz tl wq S') := by
  obtain ⟨hL, h7, q1, q2, q3, q4, q5, q6, q7, q8, q9⟩ := h
  have hlast := ce_last q9
  have h32 : wl.headD 0 < 32 := by
    cases wl with
    | nil => decide
    | cons x r => exact okW_lt q9.2.2.2.2.1 List.mem_cons_self
  have hd : f_Reader_goOn S (nI (tK v n k)) = bd2 (f_Reader_turnLiteral S) (fun a b => some (a, b)) := by
    rw [go_8 h7, hK]
    unfold f_Reader_goOnAtUnit Reader_goOnAtUnit_j69
    rw [if_neg (by decide), if_neg (by decide), if_neg (by decide), if_pos (by rfl), h7, if_pos (by rfl)]
  have fin : ∀ S1 wl', f_Reader_turnLiteral S = some (8, S1) → agG [(1, 11)] [(1, 1)] [] [] S S1 → CW T ex so sl lo wl' vl mf cz S1 → OUT v n S0 k (fun S' => CP v n S0 (k + 1) 8 sd so ne sl lo wl' vl T ex nN pd mf mp cz tl wq S') := by
    intro S1 wl' g1 a1 c1
    have c1 : CPb sd so ne sl lo wl' vl T ex nN pd mf mp cz tl wq S1 := ⟨by rw [a1.i 1 4 (by decide)]; exact q1, by rw [a1.i 1 13 (by decide)]; exact q2, by rw [a1.i 1 8 (by decide)]; exact q3, by rw [a1.i 1 9 (by decide)]; exact q4, by rw [a1.i 1 12 (by decide)]; exact q5, q6.ag a1 (by decide) (by decide) (by decide), q7.ag a1 (by decide), fun w z => by rw [a1.a 3 5 (by decide)]; exact q8 w z, c1⟩
    refine cl_go (S1 := S1) hL hk q1 (by rw [hK]; decide) (st := 8) (by decide) ?_ (a1.wk (by decide) (by decide) (by decide) (by decide)) c1.2.1 (fun S2 l2 a2 e2 => ⟨l2, e2, c1.ag a2⟩)
    rw [hd, bd2_eta, g1]
    rfl
  by_cases c : wl.headD 0 = 25
  · rw [if_pos c]
    cases wl with
    | nil => cases c
    | cons x r =>
      refine fin (pI S 1 11 (gI S 1 11 - 1)) r ?_ (agG.pI S 1 11 _ (by decide)) (ce_pop q9)
      unfold f_Reader_turnLiteral Reader_turnLiteral_j28
      rw [hlast, mb_bd, if_pos (by rw [c]; rfl), mb_nm]
  · rw [if_neg c]
    obtain ⟨S1, g1, a1, c1⟩ := ce_await (x := 25) q9 (Or.inr (Or.inl rfl)) hwl
    refine fin S1 (25 :: wl) ?_ a1 c1
    unfold f_Reader_turnLiteral Reader_turnLiteral_j28
    rw [hlast, mb_bd, if_neg (by rw [show (25 : Int32) = nI 25 from rfl, mb_eq (by omega) (by omega)]; exact c), show f_Reader_await S 25 = _ from g1, mb_bd]
