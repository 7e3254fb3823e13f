/-! the class reads: how tells begin, fields -/
variable {v : Nat → Nat} {n : Nat} {S0 S S1 S' : St} {T : Tx} {ex : Option Sem} {nN : Nat → List Nat} {pd mf mp cz sd so ne sl lo k : Nat} {wq : Option Nat} {tl : Nat → Nat} {wl : List Nat} {vl : List Sem} {LI LA LB LL : List (Nat × Nat)}
def bgK (so : Nat) : Nat := 17 + so
theorem bt_0 : f_Reader_beginTell S (nI 17) = f_Reader_beginSort S (nI 0) (nI 8) := by
  unfold f_Reader_beginTell
  rw [if_neg (by decide), if_neg (by decide), if_neg (by decide), if_pos (by rfl)]
  exact bd2_eta _
theorem bt_1 : f_Reader_beginTell S (nI 18) = f_Reader_beginSort S (nI 1) (nI 7) := by
  unfold f_Reader_beginTell
  rw [if_neg (by decide), if_neg (by decide), if_neg (by decide), if_neg (by decide), if_pos (by rfl)]
  exact bd2_eta _
theorem bt_2 : f_Reader_beginTell S (nI 19) = f_Reader_beginSort S (nI 2) (nI 8) := by
  unfold f_Reader_beginTell
  rw [if_neg (by decide), if_neg (by decide), if_neg (by decide), if_neg (by decide), if_neg (by decide), if_pos (by rfl)]
  exact bd2_eta _
theorem bt_3 : f_Reader_beginTell S (nI 20) = f_Reader_beginSort S (nI 3) (nI 8) := by
  unfold f_Reader_beginTell
  rw [if_neg (by decide), if_neg (by decide), if_neg (by decide), if_neg (by decide), if_neg (by decide), if_neg (by decide), if_pos (by rfl)]
  exact bd2_eta _
theorem bt_4 : f_Reader_beginTell S (nI 21) = f_Reader_beginSort S (nI 4) (nI 9) := by
  unfold f_Reader_beginTell
  rw [if_neg (by decide), if_neg (by decide), if_neg (by decide), if_neg (by decide), if_neg (by decide), if_neg (by decide), if_neg (by decide), if_pos (by rfl)]
  exact bd2_eta _
theorem cs_begin (h : CPz v n S0 k 0 (tNt T 4) T nN pd mf mp cz S) (hk : k ≤ 400) (hso : so < 5) (hN : ∀ s, s < 5 → tNt T s ≤ 8) (hK : tK v n k = 17 + so) : (tNt T so = 8 ∧ FOc S0 2 (tP v n k)) ∨ (tNt T so < 8 ∧ OUT v n S0 k (fun S' => CP v n S0 (k + 1) (bgS so) (if so = 4 then 0 else 1) so 0 (8 * so + tNt T so) (tNt T 4) [] [] T none nN pd mf mp cz (tlU T so) none S')) := by
  obtain ⟨hL, h7, hb⟩ := h
  obtain ⟨S1, g1, a1, hc⟩ := g_begin (so := so) hb hso hN (nI (bgS so))
  have hbs : bgS so ≤ 11 := by
    have : so = 0 ∨ so = 1 ∨ so = 2 ∨ so = 3 ∨ so = 4 := by omega
    rcases this with rfl | rfl | rfl | rfl | rfl <;> decide
  have hg : f_Reader_goOn S (nI (tK v n k)) = some (nI (bgS so), S1) := by
    rw [go_0 h7, hK]
    have : so = 0 ∨ so = 1 ∨ so = 2 ∨ so = 3 ∨ so = 4 := by omega
    rcases this with rfl | rfl | rfl | rfl | rfl
    · rw [show nI (17 + 0) = nI 17 from rfl, bt_0]; exact g1
    · rw [show nI (17 + 1) = nI 18 from rfl, bt_1]; exact g1
    · rw [show nI (17 + 2) = nI 19 from rfl, bt_2]; exact g1
    · rw [show nI (17 + 3) = nI 20 from rfl, bt_3]; exact g1
    · rw [show nI (17 + 4) = nI 21 from rfl, bt_4]; exact g1
  rcases hc with ⟨e8, e13⟩ | ⟨e8, c1⟩
  · exact Or.inl ⟨e8, cl_ref (S1 := S1) hL hk hb.1 (by omega) (Or.inr rfl) hg a1 (Or.inr ⟨st_m1 _ hbs, rfl, Or.inl e13⟩)⟩
  · exact Or.inr ⟨e8, cl_go (S1 := S1) hL hk hb.1 (by omega) hbs hg a1 c1.2.1 (fun S2 l2 a2 e2 => ⟨l2, e2, c1.ag a2⟩)⟩
theorem cs_notell (h : CPz v n S0 k 0 lo T nN pd mf mp cz S) (hk : k ≤ 400) (hK : ¬ tK v n k = 0 ∧ ¬ tK v n k = 14 ∧ ¬ (17 ≤ tK v n k ∧ tK v n k ≤ 21)) : FOc S0 1 (tP v n k) := by
  obtain ⟨hL, h7, hb⟩ := h
  have h27 := (tK_lt (v := v) (n := n) k).1
  refine cl_ref (S1 := S) hL hk hb.1 hK.1 (Or.inl rfl) (x := -1) ?_ (agG.rf S) (Or.inl ⟨rfl, rfl⟩)
  rw [go_0 h7]
  unfold f_Reader_beginTell Reader_beginTell_j111
  rw [if_neg (show ¬ nI (tK v n k) = 14 from nkI h27 (by decide) hK.2.1), if_neg (show ¬ nI (tK v n k) = 17 from nkI h27 (by decide) (show ¬ tK v n k = 17 by omega)), if_neg (show ¬ nI (tK v n k) = 18 from nkI h27 (by decide) (show ¬ tK v n k = 18 by omega)), if_neg (show ¬ nI (tK v n k) = 19 from nkI h27 (by decide) (show ¬ tK v n k = 19 by omega)), if_neg (show ¬ nI (tK v n k) = 20 from nkI h27 (by decide) (show ¬ tK v n k = 20 by omega)), if_neg (show ¬ nI (tK v n k) = 21 from nkI h27 (by decide) (show ¬ tK v n k = 21 by omega))]
  simp only [ite_self]
/-- the weight of a soft one -/
theorem cs_weight (h : CP v n S0 k 7 sd 1 ne sl lo wl vl T ex nN pd mf mp cz tl none S) (hk : k ≤ 400) (h8 : tNt T 1 < 8) (htl : tl 1 = tNt T 1 + 1) (hK : tK v n k = 3) : OUT v n S0 k (fun S' => CP v n S0 (k + 1) 8 sd 1 ne sl lo wl vl T ex nN pd mf mp cz tl (some (tN v n k)) S') := by
  obtain ⟨hL, h7, q1, q2, q3, q4, q5, q6, q7, q8, q9⟩ := h
  have a1 : agG [] [(3, 5)] [] [] S (pA S 3 5 (tNt T 1) (nI (tN v n k))) := agG.pA S 3 5 _ _ (by decide)
  have c1 : CPb sd 1 ne sl lo wl vl T ex nN pd mf mp cz tl (some (tN v n k)) (pA S 3 5 (tNt T 1) (nI (tN v n k))) := ⟨q1, q2, q3, q4, q5, ⟨q6.1, q6.2.1, q6.2.2.1, q6.2.2.2.1, (by rw [a1.b 3 0 (by decide), a1.a 3 1 (by decide), a1.a 3 2 (by decide)]; exact q6.2.2.2.2.1), fun j hj => by rw [gA_n _ _ (fun z => by omega)]; exact q6.2.2.2.2.2 j hj⟩, q7.ag a1 (by decide), (fun w z => by cases z; exact gA_s _ _ _ _ _), q9.ag a1 (by decide) (by decide)⟩
  refine cl_go (S1 := pA S 3 5 (tNt T 1) (nI (tN v n k))) hL hk q1 (by rw [hK]; decide) (st := 8) (by decide) ?_ (a1.wk (by decide) (by decide) (by decide) (by decide)) c1.2.1 (fun S2 l2 a2 e2 => ⟨l2, e2, c1.ag a2⟩)
  unfold f_Reader_goOn Reader_goOn_j191 f_Reader_weigh f_Book_setWeight Book_setWeight_j20
  rw [h7, mb_nm, hK, if_neg (by decide), if_neg (by decide), if_neg (by decide), if_neg (by decide), if_neg (by decide), if_neg (by decide), if_neg (by decide), if_pos (by rfl), if_pos (by rfl), show f_Book_toldOf 3 S 1 = _ from c_told3 q7 (so := 1) (by decide), mb_bd, htl, nI_pred, if_neg (nI_pos (by omega)), if_neg (by rw [mb_le (by omega) (by omega)]; omega), mb_in (by omega) (by decide), mb_gd, mb_nm, mb_cl (by omega), hL.2.2.2.2.2.2.2.1 hK, mb_bd, mb_bd2]
  rfl
theorem cs_noweight (h : CP v n S0 k 7 sd so ne sl lo wl vl T ex nN pd mf mp cz tl wq S) (hk : k ≤ 400) (hz : ¬ tK v n k = 0) (hK : ¬ tK v n k = 3) : FOc S0 1 (tP v n k) := by
  obtain ⟨hL, h7, hb⟩ := h
  have h27 := (tK_lt (v := v) (n := n) k).1
  refine cl_ref (S1 := S) hL hk hb.1 hz (Or.inl rfl) (x := -1) ?_ (agG.rf S) (Or.inl ⟨rfl, rfl⟩)
  unfold f_Reader_goOn Reader_goOn_j191
  rw [h7, mb_nm, if_neg (by decide), if_neg (by decide), if_neg (by decide), if_neg (by decide), if_neg (by decide), if_neg (by decide), if_neg (by decide), if_pos (by rfl), if_neg (show ¬ nI (tK v n k) = 3 from nkI h27 (by decide) hK)]
/-! fields -/
theorem cs_field (h : CPz v n S0 k 0 lo T nN pd mf mp cz S) (hk : k ≤ 400) (hn6 : tNf T ≤ 6) (hK : tK v n k = 14) : (tNf T = 6 ∧ FOc S0 2 (tP v n k)) ∨ (tNf T < 6 ∧ OUT v n S0 k (fun S' => CPz v n S0 (k + 1) 1 lo T nN pd mf mp cz S')) := by
  obtain ⟨hL, h7, hb⟩ := h
  have hg : f_Reader_goOn S (nI (tK v n k)) = (if nI (tNf T) < 6 then some (1, pI S 1 13 0) else some (1, pI S 1 13 1)) := by
    rw [go_0 h7, hK]
    unfold f_Reader_beginTell Reader_beginTell_j66
    rw [if_pos (by rfl), hb.2.2.2.1.1, show isB (0 : Int32) = true from rfl, mb_gd, mb_nm, show isB (1 : Int32) = true from rfl, mb_gd, mb_nm]
  by_cases c : tNf T < 6
  · right
    refine ⟨c, ?_⟩
    have e : pI S 1 13 0 = pI S 1 13 0 := rfl
    have a1 : agG [(1, 13)] [] [] [] S (pI S 1 13 0) := agG.pI S 1 13 _ (by decide)
    obtain ⟨q1, q2, q3, q4, q5, q6⟩ := hb
    have c1 : CP0b lo T nN pd mf mp cz (tNt T) (pI S 1 13 0) := ⟨by rw [a1.i 1 4 (by decide)]; exact q1, gI_s _ _ _ _, by rw [a1.i 1 12 (by decide)]; exact q3, q4.ag a1 (by decide) (by decide) (by decide), q5.ag a1 (by decide), q6.ag a1 (by decide) (by decide)⟩
    refine cl_go (S1 := pI S 1 13 0) hL hk q1 (by omega) (st := 1) (by decide) ?_ (a1.wk (by decide) (by decide) (by decide) (by decide)) c1.2.1 (fun S2 l2 a2 e2 => ⟨l2, e2, c1.sp a2⟩)
    rw [hg, if_pos (by rw [l6, mb_lt (by omega) (by omega)]; exact c)]
    rfl
  · left
    refine ⟨by omega, ?_⟩
    refine cl_ref (S1 := pI S 1 13 1) hL hk hb.1 (by omega) (Or.inr rfl) (x := 1) ?_ (agG.pI S 1 13 _ (by decide)) (Or.inr ⟨by decide, rfl, Or.inl (by rw [gI_s]; decide)⟩)
    rw [hg, if_neg (by rw [l6, mb_lt (by omega) (by omega)]; exact c)]
def NP (w : List Nat) (p : Nat) (S : St) : Prop := gL S 1 14 = lN (encC w) ∧ gI S 1 15 = nI p
theorem NP.ag {w : List Nat} {p : Nat} (h : NP w p S) (a : agG LI LA LB LL S S') (h1 : (1, 15) ∉ LI) (h2 : (1, 14) ∉ LL) : NP w p S' := by
  unfold NP
  rw [a.l 1 14 h2, a.i 1 15 h1]
  exact h
theorem cs_f1 (h : CPz v n S0 k 1 lo T nN pd mf mp cz S) (hk : k ≤ 400) (hK : tK v n k = 2) : OUT v n S0 k (fun S' => CPz v n S0 (k + 1) 2 lo T nN pd mf mp cz S' ∧ NP (tWd v n k) (tP v n k) S') := by
  obtain ⟨hL, h7, hb⟩ := h
  have a1 : agG [(1, 15)] [] [] [(1, 14)] S (pI (pL S 1 14 (gL S 2 6)) 1 15 (nI (tP v n k))) := (agG.pL S 1 14 _ (by decide)).tr (agG.pI _ 1 15 _ (by decide))
  have c1 := hb.ag a1 (by decide) (by decide) (by decide)
  have n1 : NP (tWd v n k) (tP v n k) (pI (pL S 1 14 (gL S 2 6)) 1 15 (nI (tP v n k))) := ⟨by rw [mb_LI, gL_s]; exact hL.2.2.2.2.2.2.2.2 hK, gI_s _ _ _ _⟩
  refine cl_go (S1 := pI (pL S 1 14 (gL S 2 6)) 1 15 (nI (tP v n k))) hL hk hb.1 (by omega) (st := 2) (by decide) ?_ (a1.wk (by decide) (by decide) (by decide) (by decide)) c1.2.1 (fun S2 l2 a2 e2 => ⟨⟨l2, e2, c1.sp a2⟩, n1.ag a2 (by decide) (by decide)⟩)
  unfold f_Reader_goOn Reader_goOn_j106
  rw [h7, mb_nm, hK, if_neg (by decide), if_pos (by rfl), mb_nm, mb_IL, hL.2.2.2.2.2.2.1, mb_nm, if_pos (by rfl)]
  rfl
theorem cs_f1no (h : CPz v n S0 k 1 lo T nN pd mf mp cz S) (hk : k ≤ 400) (hz : ¬ tK v n k = 0) (hK : ¬ tK v n k = 2) : FOc S0 1 (tP v n k) := by
  obtain ⟨hL, h7, hb⟩ := h
  have h27 := (tK_lt (v := v) (n := n) k).1
  have a1 : agG [(1, 15)] [] [] [(1, 14)] S (pI (pL S 1 14 (gL S 2 6)) 1 15 (gI (pL S 1 14 (gL S 2 6)) 2 4)) := (agG.pL S 1 14 _ (by decide)).tr (agG.pI _ 1 15 _ (by decide))
  refine cl_ref (S1 := pI (pL S 1 14 (gL S 2 6)) 1 15 (gI (pL S 1 14 (gL S 2 6)) 2 4)) hL hk hb.1 hz (Or.inl rfl) (x := -1) ?_ (a1.wk (by decide) (by decide) (by decide) (by decide)) (Or.inl ⟨rfl, rfl⟩)
  unfold f_Reader_goOn Reader_goOn_j106
  rw [h7, mb_nm, if_neg (by decide), if_pos (by rfl), mb_nm, mb_nm, if_neg (show ¬ nI (tK v n k) = 2 from nkI h27 (by decide) hK)]
theorem cs_f2 (h : CPz v n S0 k 2 lo T nN pd mf mp cz S) (hk : k ≤ 400) (hK : tK v n k = 15) {P : St → Prop} (hP : ∀ S2, CPz v n S0 (k + 1) 3 lo T nN pd mf mp cz S2 → agG spI [] [] [(2, 6)] S S2 → P S2) : OUT v n S0 k P := by
  obtain ⟨hL, h7, hb⟩ := h
  refine cl_go (S1 := S) hL hk hb.1 (by omega) (st := 3) (by decide) ?_ (agG.rf S) hb.2.1 (fun S2 l2 a2 e2 => hP S2 ⟨l2, e2, hb.sp a2⟩ a2)
  unfold f_Reader_goOn Reader_goOn_j118
  rw [h7, mb_nm, hK, if_neg (by decide), if_neg (by decide), if_pos (by rfl), if_pos (by rfl)]
  rfl
theorem cs_f2no (h : CPz v n S0 k 2 lo T nN pd mf mp cz S) (hk : k ≤ 400) (hz : ¬ tK v n k = 0) (hK : ¬ tK v n k = 15) : FOc S0 1 (tP v n k) := by
  obtain ⟨hL, h7, hb⟩ := h
  have h27 := (tK_lt (v := v) (n := n) k).1
  refine cl_ref (S1 := S) hL hk hb.1 hz (Or.inl rfl) (x := -1) ?_ (agG.rf S) (Or.inl ⟨rfl, rfl⟩)
  unfold f_Reader_goOn Reader_goOn_j118
  rw [h7, mb_nm, if_neg (by decide), if_neg (by decide), if_pos (by rfl), if_neg (show ¬ nI (tK v n k) = 15 from nkI h27 (by decide) hK)]
theorem cs_f4 (h : CPz v n S0 k 4 lo T nN pd mf mp cz S) (hk : k ≤ 400) (hK : tK v n k = 16) {P : St → Prop} (hP : ∀ S2, CPz v n S0 (k + 1) 5 lo T nN pd mf mp cz S2 → agG spI [] [] [(2, 6)] S S2 → P S2) : OUT v n S0 k P := by
  obtain ⟨hL, h7, hb⟩ := h
  refine cl_go (S1 := S) hL hk hb.1 (by omega) (st := 5) (by decide) ?_ (agG.rf S) hb.2.1 (fun S2 l2 a2 e2 => hP S2 ⟨l2, e2, hb.sp a2⟩ a2)
  unfold f_Reader_goOn Reader_goOn_j152
  rw [h7, mb_nm, hK, if_neg (by decide), if_neg (by decide), if_neg (by decide), if_neg (by decide), if_pos (by rfl), if_pos (by rfl)]
  rfl
theorem cs_f4no (h : CPz v n S0 k 4 lo T nN pd mf mp cz S) (hk : k ≤ 400) (hz : ¬ tK v n k = 0) (hK : ¬ tK v n k = 16) : FOc S0 1 (tP v n k) := by
  obtain ⟨hL, h7, hb⟩ := h
  have h27 := (tK_lt (v := v) (n := n) k).1
  refine cl_ref (S1 := S) hL hk hb.1 hz (Or.inl rfl) (x := -1) ?_ (agG.rf S) (Or.inl ⟨rfl, rfl⟩)
  unfold f_Reader_goOn Reader_goOn_j152
  rw [h7, mb_nm, if_neg (by decide), if_neg (by decide), if_neg (by decide), if_neg (by decide), if_pos (by rfl), if_neg (show ¬ nI (tK v n k) = 16 from nkI h27 (by decide) hK)]
theorem cs_f6 (h : CPz v n S0 k 6 lo T nN pd mf mp cz S) (hk : k ≤ 400) (hK : tK v n k = 4) {P : St → Prop} (hP : ∀ S2, CPz v n S0 (k + 1) 0 lo T nN pd mf mp cz S2 → agG spI [] [] [(2, 6)] S S2 → P S2) : OUT v n S0 k P := by
  obtain ⟨hL, h7, hb⟩ := h
  refine cl_go (S1 := S) hL hk hb.1 (by omega) (st := 0) (by decide) ?_ (agG.rf S) hb.2.1 (fun S2 l2 a2 e2 => hP S2 ⟨l2, e2, hb.sp a2⟩ a2)
  unfold f_Reader_goOn Reader_goOn_j177
  rw [h7, mb_nm, hK, if_neg (by decide), if_neg (by decide), if_neg (by decide), if_neg (by decide), if_neg (by decide), if_neg (by decide), if_pos (by rfl), if_pos (by rfl)]
  rfl
theorem cs_f6no (h : CPz v n S0 k 6 lo T nN pd mf mp cz S) (hk : k ≤ 400) (hz : ¬ tK v n k = 0) (hK : ¬ tK v n k = 4) : FOc S0 1 (tP v n k) := by
  obtain ⟨hL, h7, hb⟩ := h
  have h27 := (tK_lt (v := v) (n := n) k).1
  refine cl_ref (S1 := S) hL hk hb.1 hz (Or.inl rfl) (x := -1) ?_ (agG.rf S) (Or.inl ⟨rfl, rfl⟩)
  unfold f_Reader_goOn Reader_goOn_j177
  rw [h7, mb_nm, if_neg (by decide), if_neg (by decide), if_neg (by decide), if_neg (by decide), if_neg (by decide), if_neg (by decide), if_pos (by rfl), if_neg (show ¬ nI (tK v n k) = 4 from nkI h27 (by decide) hK)]
theorem cs_f3 (h : CPz v n S0 k 3 lo T nN pd mf mp cz S) (hk : k ≤ 400) (hK : tK v n k = 3) {w : List Nat} {p : Nat} (hn : NP w p S) : OUT v n S0 k (fun S' => CPz v n S0 (k + 1) 4 lo T nN pd mf mp cz S' ∧ NP w p S' ∧ gI S' 1 16 = nI (tN v n k)) := by
  obtain ⟨hL, h7, hb⟩ := h
  have a1 : agG [(1, 16)] [] [] [] S (pI S 1 16 (nI (tN v n k))) := agG.pI S 1 16 _ (by decide)
  have c1 := hb.ag a1 (by decide) (by decide) (by decide)
  refine cl_go (S1 := pI S 1 16 (nI (tN v n k))) hL hk hb.1 (by omega) (st := 4) (by decide) ?_ (a1.wk (by decide) (by decide) (by decide) (by decide)) c1.2.1 (fun S2 l2 a2 e2 => ⟨⟨l2, e2, c1.sp a2⟩, (hn.ag a1 (by decide) (by decide)).ag a2 (by decide) (by decide), by rw [a2.i 1 16 (by decide), gI_s]⟩)
  unfold f_Reader_goOn Reader_goOn_j140
  rw [h7, mb_nm, hK, if_neg (by decide), if_neg (by decide), if_neg (by decide), if_pos (by rfl), hL.2.2.2.2.2.2.2.1 hK, mb_nm, if_pos (by rfl)]
  rfl
theorem cs_f3no (h : CPz v n S0 k 3 lo T nN pd mf mp cz S) (hk : k ≤ 400) (hz : ¬ tK v n k = 0) (hK : ¬ tK v n k = 3) : FOc S0 1 (tP v n k) := by
  obtain ⟨hL, h7, hb⟩ := h
  have h27 := (tK_lt (v := v) (n := n) k).1
  have a1 : agG [(1, 16)] [] [] [] S (pI S 1 16 (gI S 2 5)) := agG.pI S 1 16 _ (by decide)
  refine cl_ref (S1 := pI S 1 16 (gI S 2 5)) hL hk hb.1 hz (Or.inl rfl) (x := -1) ?_ (a1.wk (by decide) (by decide) (by decide) (by decide)) (Or.inl ⟨rfl, rfl⟩)
  unfold f_Reader_goOn Reader_goOn_j140
  rw [h7, mb_nm, if_neg (by decide), if_neg (by decide), if_neg (by decide), if_pos (by rfl), mb_nm, if_neg (show ¬ nI (tK v n k) = 3 from nkI h27 (by decide) hK)]
theorem cs_f5no (h : CPz v n S0 k 5 lo T nN pd mf mp cz S) (hk : k ≤ 400) (hz : ¬ tK v n k = 0) (hK : ¬ tK v n k = 3) : FOc S0 1 (tP v n k) := by
  obtain ⟨hL, h7, hb⟩ := h
  have h27 := (tK_lt (v := v) (n := n) k).1
  refine cl_ref (S1 := S) hL hk hb.1 hz (Or.inl rfl) (x := -1) ?_ (agG.rf S) (Or.inl ⟨rfl, rfl⟩)
  unfold f_Reader_goOn Reader_goOn_j166
  rw [h7, mb_nm, if_neg (by decide), if_neg (by decide), if_neg (by decide), if_neg (by decide), if_neg (by decide), if_pos (by rfl), if_neg (show ¬ nI (tK v n k) = 3 from nkI h27 (by decide) hK)]
/-- what a field's end does to the faults of meaning -/
def eF1 (o : Option Nat) (p mf mp : Nat) : Nat × Nat := match o with
  | none => (mf, mp)
  | some _ => blN 3 p mf mp
def eF2 (a b q : Nat) (m : Nat × Nat) : Nat × Nat := if a ≤ b then m else blN 5 q m.1 m.2
def wdt (a b : Nat) : Nat := if a ≤ b then b + 1 - a else 1
def pdN (pd m : Nat) : Nat := if 32769 < pd * m then 32769 else pd * m
def eF3 (pd p : Nat) (m : Nat × Nat) : Nat × Nat := if pd ≤ 32768 then m else blN 6 p m.1 m.2
theorem wdt_I {a b : Nat} (ha : a < 10000) (hb : b < 10000) : (if (1 : Int32) < nI b - nI a + 1 then nI b - nI a + 1 else (1 : Int32)) = nI (wdt a b) := by
  have e : nI b - nI a + 1 = nI (b + 1) - nI a := by
    rw [Int32.sub_eq_add_neg, Int32.sub_eq_add_neg, Int32.add_assoc, Int32.add_comm (-nI a) 1, ← Int32.add_assoc, nI_1]
  rw [e]
  unfold wdt
  by_cases c : a ≤ b
  · rw [if_pos c, pk_sub (by omega)]
    by_cases d : 1 < b + 1 - a
    · rw [if_pos (by rw [l1, mb_lt (by omega) (by omega)]; exact d)]
    · rw [if_neg (by rw [l1, mb_lt (by omega) (by omega)]; exact d), show b + 1 - a = 1 by omega]
      rfl
  · rw [if_neg c]
    have hn : ¬ (1 : Int32) < nI (b + 1) - nI a := by
      intro z
      by_cases d : b + 1 = a
      · rw [d, Int32.sub_self] at z
        exact absurd z (by decide)
      · have h0 : (0 : Int32) ≤ nI (b + 1) - nI a := Int32.le_of_lt (Int32.lt_trans (show (0 : Int32) < 1 by decide) z)
        rw [sub_pos (by omega) (by omega)] at h0
        omega
    rw [if_neg hn]
    rfl
theorem cs_f5 (h : CPz v n S0 k 5 lo T nN pd mf mp cz S) (hk : k ≤ 400) (hD : DOK T nN mf mp) (hf6 : tNf T < 6) (hpd : pd ≤ 32769) (hK : tK v n k = 3) {w : List Nat} {p a : Nat} (hw : alW w) (hwl : w.length ≤ 8) (hp : p ≤ 2000) (ha : a < 10000) (hn : NP w p S) (h16 : gI S 1 16 = nI a) : OUT v n S0 k (fun S' => CPz v n S0 (k + 1) 6 lo (addF T a (wdt a (tN v n k))) (upN nN (tNf T) w) (pdN pd (wdt a (tN v n k))) (eF3 (pdN pd (wdt a (tN v n k))) p (eF2 a (tN v n k) (tP v n k) (eF1 (fnd nN w (tNf T)) p mf mp))).1 (eF3 (pdN pd (wdt a (tN v n k))) p (eF2 a (tN v n k) (tP v n k) (eF1 (fnd nN w (tNf T)) p mf mp))).2 cz S') := by
  obtain ⟨hL, h7, hb⟩ := h
  obtain ⟨q1, q2, q3, q4, q5, q6⟩ := id hb
  obtain ⟨n6, hN, hm, hm2⟩ := hD
  have hb3 := tk_3 hK
  have hn2 := hL.2.2.1.1
  have hpl := tP_le (v := v) (n := n) k
  have h25 := hL.2.2.2.2.2.2.2.1 hK
  have h24 := hL.2.2.2.2.2.2.1
  -- the three blames, one after the other; what they leave
  have st1 : ∃ S1, (if oI (fnd nN w (tNf T)) = -1 then Reader_endField_j24 S else bd (f_Reader_blame S 3 (nI p)) fun S_5 => Reader_endField_j24 S_5) = Reader_endField_j24 S1 ∧ agG [(1, 5), (1, 6)] [] [] [] S S1 ∧ gI S1 1 5 = nI (eF1 (fnd nN w (tNf T)) p mf mp).1 ∧ (¬ (eF1 (fnd nN w (tNf T)) p mf mp).1 = 0 → gI S1 1 6 = nI (eF1 (fnd nN w (tNf T)) p mf mp).2) ∧ (eF1 (fnd nN w (tNf T)) p mf mp).1 ≤ 6 ∧ (eF1 (fnd nN w (tNf T)) p mf mp).2 ≤ 2000 ∧ ((eF1 (fnd nN w (tNf T)) p mf mp).1 = 0 → mf = 0) := by
    cases hf : fnd nN w (tNf T) with
    | none =>
      rw [if_pos (by rfl)]
      exact ⟨S, rfl, agG.rf S, q4.2.2.1, q4.2.2.2.1, hm, hm2, fun z => z⟩
    | some f =>
      have := fnd_lt hf
      obtain ⟨S1, g1, a1, e5, e6⟩ := c_blame (f := 3) (p := p) q4.2.2.1 q4.2.2.2.1 hm hm2 (by decide) hp
      rw [if_neg (show ¬ oI (some f) = -1 from nI_m1 (by omega)), show f_Reader_blame S 3 (nI p) = _ from g1, mb_bd]
      exact ⟨S1, rfl, a1, e5, fun _ => e6, (bl_le (by decide) hp hm hm2).1, (bl_le (by decide) hp hm hm2).2, fun z => absurd z (bl_ne (by decide))⟩
  obtain ⟨S1, g1, a1, e15, e16, b11, b12, hz1⟩ := st1
  generalize eF1 (fnd nN w (tNf T)) p mf mp = m1 at *
  have st2 : ∃ S2, Reader_endField_j24 S1 = Reader_endField_j50 S2 ∧ agG [(1, 5), (1, 6)] [] [] [] S S2 ∧ gI S2 1 5 = nI (eF2 a (tN v n k) (tP v n k) m1).1 ∧ (¬ (eF2 a (tN v n k) (tP v n k) m1).1 = 0 → gI S2 1 6 = nI (eF2 a (tN v n k) (tP v n k) m1).2) ∧ (eF2 a (tN v n k) (tP v n k) m1).1 ≤ 6 ∧ (eF2 a (tN v n k) (tP v n k) m1).2 ≤ 2000 ∧ ((eF2 a (tN v n k) (tP v n k) m1).1 = 0 → a ≤ tN v n k ∧ m1.1 = 0) := by
    unfold Reader_endField_j24 eF2
    rw [a1.i 1 16 (by decide), h16, a1.i 2 5 (by decide), h25, a1.i 2 4 (by decide), h24]
    by_cases c : a ≤ tN v n k
    · rw [if_pos (by rw [mb_le (by omega) (by omega)]; exact c), if_pos c]
      exact ⟨S1, rfl, a1, e15, e16, b11, b12, fun z => ⟨c, z⟩⟩
    · rw [if_neg (by rw [mb_le (by omega) (by omega)]; exact c), if_neg c]
      obtain ⟨S2, g2, a2, e5, e6⟩ := c_blame (f := 5) (p := tP v n k) e15 e16 b11 b12 (by decide) (by omega)
      rw [show f_Reader_blame S1 5 (nI (tP v n k)) = _ from g2, mb_bd]
      exact ⟨S2, rfl, a1.tr a2, e5, fun _ => e6, (bl_le (by decide) (by omega) b11 b12).1, (bl_le (by decide) (by omega) b11 b12).2, fun z => absurd z (bl_ne (by decide))⟩
  obtain ⟨S2, g2, a2, e25, e26, b21, b22, hab⟩ := st2
  generalize eF2 a (tN v n k) (tP v n k) m1 = m2 at *
  -- the field itself
  have hwd : wdt a (tN v n k) ≤ 10000 := by
    unfold wdt
    by_cases c : a ≤ tN v n k
    · rw [if_pos c]; omega
    · rw [if_neg c]; decide
  have hmul : pd * wdt a (tN v n k) < 2147483648 := Nat.lt_of_le_of_lt (Nat.mul_le_mul hpd hwd) (by decide)
  obtain ⟨S3, eS3⟩ : ∃ S3, S3 = pI (pI (pA (pA (pB S2 3 0 (tNf T) (lN (encC w))) 3 1 (tNf T) (nI a)) 3 2 (tNf T) (nI (tN v n k))) 3 10 (nI (tNf T + 1))) 3 11 (nI (pdN pd (wdt a (tN v n k)))) := ⟨_, rfl⟩
  have a3 : agG [(3, 10), (3, 11)] [(3, 1), (3, 2)] [(3, 0)] [] S2 S3 := by
    rw [eS3]
    exact (((agG.pB S2 3 0 _ _ (by decide)).tr (agG.pA _ 3 1 _ _ (by decide))).tr (agG.pA _ 3 2 _ _ (by decide))).tr ((agG.pI _ 3 10 _ (by decide)).tr (agG.pI _ 3 11 _ (by decide)))
  have add : f_Book_addField S2 (gL S2 1 14) (gI S2 1 16) (gI S2 2 5) = some S3 := by
    have i10 : gI S2 3 10 = nI (tNf T) := by rw [a2.i 3 10 (by decide)]; exact q4.1
    have i11 : gI S2 3 11 = nI pd := by rw [a2.i 3 11 (by decide)]; exact q4.2.1
    unfold f_Book_addField
    rw [a2.l 1 14 (by decide), hn.1, a2.i 1 16 (by decide), h16, a2.i 2 5 (by decide), h25, i10, if_pos (by rw [l6, mb_lt (by omega) (by omega)]; exact hf6), wdt_I ha hb3]
    simp only [mb_nm, mb_IA, mb_IB]
    rw [i10, mb_in (by omega) (by decide), mb_gd, mb_gd, mb_gd, mb_cl (by omega), nI_1]
    have hI : gI (pI (pA (pA (pB S2 3 0 (tNf T) (lN (encC w))) 3 1 (tNf T) (nI a)) 3 2 (tNf T) (nI (tN v n k))) 3 10 (nI (tNf T + 1))) 3 11 = nI pd := by
      rw [gI_n _ _ (fun z => by omega)]
      exact i11
    simp only [hI, pk_mul]
    rw [eS3]
    unfold pdN
    by_cases c : 32769 < pd * wdt a (tN v n k)
    · rw [if_pos (by rw [show (32769 : Int32) = nI 32769 from rfl, mb_lt (by omega) (by omega)]; exact c), if_pos c]
      rfl
    · rw [if_neg (by rw [show (32769 : Int32) = nI 32769 from rfl, mb_lt (by omega) (by omega)]; exact c), if_neg c]
  have hpdN : pdN pd (wdt a (tN v n k)) ≤ 32769 := by
    unfold pdN
    by_cases c : 32769 < pd * wdt a (tN v n k)
    · rw [if_pos c]; exact Nat.le_refl _
    · rw [if_neg c]; omega
  have i11 : gI S3 3 11 = nI (pdN pd (wdt a (tN v n k))) := by rw [eS3, gI_s]
  have st3 : ∃ S4, Reader_endField_j50 S2 = some (6, S4) ∧ agG [(1, 5), (1, 6)] [] [] [] S3 S4 ∧ gI S4 1 5 = nI (eF3 (pdN pd (wdt a (tN v n k))) p m2).1 ∧ (¬ (eF3 (pdN pd (wdt a (tN v n k))) p m2).1 = 0 → gI S4 1 6 = nI (eF3 (pdN pd (wdt a (tN v n k))) p m2).2) ∧ ((eF3 (pdN pd (wdt a (tN v n k))) p m2).1 = 0 → m2.1 = 0) := by
    have f5 : gI S3 1 5 = nI m2.1 := by rw [a3.i 1 5 (by decide)]; exact e25
    have f6 : ¬ m2.1 = 0 → gI S3 1 6 = nI m2.2 := fun z => by rw [a3.i 1 6 (by decide)]; exact e26 z
    unfold Reader_endField_j50 Reader_endField_j94 eF3
    rw [add, mb_bd, i11]
    by_cases c : pdN pd (wdt a (tN v n k)) ≤ 32768
    · rw [if_pos (by rw [show (32768 : Int32) = nI 32768 from rfl, mb_le (by omega) (by omega)]; exact c), if_pos c]
      exact ⟨S3, rfl, agG.rf S3, f5, f6, fun z => z⟩
    · rw [if_neg (by rw [show (32768 : Int32) = nI 32768 from rfl, mb_le (by omega) (by omega)]; exact c), if_neg c, a3.i 1 15 (by decide), a2.i 1 15 (by decide), hn.2]
      obtain ⟨S4, g4, a4, e5, e6⟩ := c_blame (f := 6) (p := p) f5 f6 b21 b22 (by decide) hp
      rw [show f_Reader_blame S3 6 (nI p) = _ from g4, mb_bd]
      exact ⟨S4, rfl, a4, e5, fun _ => e6, fun z => absurd z (bl_ne (by decide))⟩
  obtain ⟨S4, g4, a4, e45, e46, hm20⟩ := st3
  generalize eF3 (pdN pd (wdt a (tN v n k))) p m2 = m3 at *
  have a24 : agG [(3, 10), (3, 11), (1, 5), (1, 6)] [(3, 1), (3, 2)] [(3, 0)] [] S S4 := ((a2.wk (by decide) (by decide) (by decide) (by decide)).tr (a3.wk (by decide) (by decide) (by decide) (by decide))).tr (a4.wk (by decide) (by decide) (by decide) (by decide))
  have hm0 : m3.1 = 0 → mf = 0 := by
    intro z
    exact hz1 (hab (hm20 z)).2
  have cd : CDt (addF T a (wdt a (tN v n k))) (upN nN (tNf T) w) (pdN pd (wdt a (tN v n k))) m3.1 m3.2 S4 := by
    refine ⟨?_, ?_, e45, e46, fun f hf => ?_, ?_⟩
    · rw [a4.i 3 10 (by decide), eS3, gI_n _ _ (fun z => by omega), gI_s]
      rfl
    · rw [a4.i 3 11 (by decide)]; exact i11
    · have hf : f < tNf T + 1 := hf
      show gB S4 3 0 f = lN (encC (if f = tNf T then w else nN f)) ∧ gA S4 3 1 f = nI (if f = tNf T then a else tFr T f) ∧ (m3.1 = 0 → gA S4 3 2 f = nI ((if f = tNf T then a else tFr T f) + (if f = tNf T then wdt a (tN v n k) else tMa T f) - 1))
      rw [a4.b 3 0 (by decide), a4.a 3 1 (by decide), a4.a 3 2 (by decide), eS3]
      rw [mb_BI, mb_BI, mb_BA, mb_BA, mb_BB, mb_AI, mb_AI, gA_n _ (nI (tN v n k)) (show ¬ (3 = 3 ∧ 1 = 2 ∧ f = tNf T) from fun z => by omega), mb_AA, mb_AA]
      by_cases e : f = tNf T
      · rw [if_pos (show 3 = 3 ∧ 0 = 0 ∧ f = tNf T from ⟨rfl, rfl, e⟩), if_pos (show 3 = 3 ∧ 1 = 1 ∧ f = tNf T from ⟨rfl, rfl, e⟩), if_pos (show 3 = 3 ∧ 2 = 2 ∧ f = tNf T from ⟨rfl, rfl, e⟩), if_pos e, if_pos e, if_pos e]
        refine ⟨rfl, rfl, fun z => ?_⟩
        have := (hab (hm20 z)).1
        unfold wdt
        rw [if_pos this]
        congr 1
        omega
      · obtain ⟨t1, t2, t3⟩ := q4.2.2.2.2.1 f (by omega)
        rw [if_neg (show ¬ (3 = 3 ∧ 0 = 0 ∧ f = tNf T) from fun z => e z.2.2), if_neg (show ¬ (3 = 3 ∧ 1 = 1 ∧ f = tNf T) from fun z => e z.2.2), if_neg (show ¬ (3 = 3 ∧ 2 = 2 ∧ f = tNf T) from fun z => e z.2.2), if_neg e, if_neg e, if_neg e]
        refine ⟨by rw [a2.b 3 0 (by decide)]; exact t1, ?_, fun z => ?_⟩
        · rw [mb_AB, a2.a 3 1 (by decide)]; exact t2
        · rw [gA_n _ _ (fun z => by omega), mb_AB, a2.a 3 2 (by decide)]; exact t3 (hm0 z)
    · rw [a24.a 3 5 (by decide)]; exact q4.2.2.2.2.2
  have c4 : CP0b lo (addF T a (wdt a (tN v n k))) (upN nN (tNf T) w) (pdN pd (wdt a (tN v n k))) m3.1 m3.2 cz (tNt (addF T a (wdt a (tN v n k)))) S4 := by
    refine ⟨by rw [a24.i 1 4 (by decide)]; exact q1, by rw [a24.i 1 13 (by decide)]; exact q2, by rw [a24.i 1 12 (by decide)]; exact q3, cd, q5.ag a24 (by decide), by rw [a24.i 3 12 (by decide)]; exact q6.1, q6.2.1.ag a24 (by decide), fun m c => ?_⟩
    have w1 := (q6.2.2 (hm0 m) c).ag a24 (by decide)
    refine ⟨(fun _ z => by cases z), fun s k hs hk => ?_, fun k hk => ⟨?_, ?_⟩⟩
    · obtain ⟨e, e1, e2⟩ := w1.2.1 s k hs hk
      exact ⟨e, e1, e2.mono (Nat.le_succ _)⟩
    · obtain ⟨e, e1, e2⟩ := (w1.2.2 k hk).1
      exact ⟨e, e1, e2.mono (Nat.le_succ _)⟩
    · rcases (w1.2.2 k hk).2 with z | ⟨e, e1, e2⟩
      · exact Or.inl z
      · exact Or.inr ⟨e, e1, e2.mono (Nat.le_succ _)⟩
  refine cl_go (S1 := S4) hL hk q1 (by omega) (st := 6) (by decide) ?_ (a24.wk (by decide) (by decide) (by decide) (by decide)) c4.2.1 (fun S2 l2 a2 e2 => ⟨l2, e2, c4.sp a2⟩)
  unfold f_Reader_goOn Reader_goOn_j166 f_Reader_endField
  rw [h7, mb_nm, hK, if_neg (by decide), if_neg (by decide), if_neg (by decide), if_neg (by decide), if_neg (by decide), if_pos (by rfl), if_pos (by rfl), hn.1, c_named q4 n6 hN hw hwl, mb_bd, hn.2, g1, g2, g4, mb_bd2]
  rfl
