/-! the class reads: behind a unit, and whole tells -/
variable {v : Nat → Nat} {n : Nat} {S0 S S1 S' : St} {T : Tx} {ex : Option Sem} {nN : Nat → List Nat} {pd mf mp cz sd so ne sl lo k : Nat} {wq : Option Nat} {tl : Nat → Nat} {wl : List Nat} {vl : List Sem} {LI LA LB LL : List (Nat × Nat)}
theorem g_join (q9 : CW T ex so sl lo wl vl mf cz S) (hn6 : tNf T ≤ 6) {x st : Nat} (hx : isB2 x = true) (hvl : vl.length = nbW wl + 1) (hwl : wl.length < 40) : ∃ S', f_Reader_join S (nI x) (nI st) = some (nI st, S') ∧ agG [(3, 12), (1, 11)] [(3, 6), (3, 8), (3, 9), (1, 1)] [] [] S S' ∧ CW T ex so sl lo (x :: (rel (tg x) wl vl).1) (rel (tg x) wl vl).2 mf (cz + (wl.length - (rel (tg x) wl vl).1.length)) S' := by
  have hx32 : x < 32 := by have := isB2_s hx; omega
  have ht : 0 < tg x ∧ tg x < 10 := by
    rcases isB2_s hx with rfl | rfl | rfl | rfl | rfl | rfl | rfl | rfl | rfl <;> decide
  obtain ⟨S1, g1, a1, c1⟩ := ce_release hn6 ht.1 ht.2 q9 hvl
  obtain ⟨r1, r2, -⟩ := rel_len (tg x) ht.1 wl vl q9.2.2.2.2.1 hvl
  obtain ⟨S2, g2, a2, c2⟩ := ce_await (x := x) c1 (Or.inl hx) (by omega)
  refine ⟨S2, ?_, (a1.wk (by decide) (by decide) (by decide) (by decide)).tr (a2.wk (by decide) (by decide) (by decide) (by decide)), c2⟩
  unfold f_Reader_join
  rw [tg_c x hx32, mb_bd, g1, mb_bd, g2, mb_bd]
def jnI : List (Nat × Nat) := [(3, 12), (1, 11)]
def jnA : List (Nat × Nat) := [(3, 6), (3, 8), (3, 9), (1, 1)]
theorem CPb.jn {wl' : List Nat} {vl' : List Sem} {cz' sd' : Nat} {S1 : St} (h : CPb sd so ne sl lo wl vl T ex nN pd mf mp cz tl wq S) (a1 : agG [(3, 12), (1, 11), (1, 8)] [(3, 6), (3, 8), (3, 9), (1, 1)] [] [] S S1) (h8 : gI S1 1 8 = nI sd') (c1 : CW T ex so sl lo wl' vl' mf cz' S1) : CPb sd' so ne sl lo wl' vl' T ex nN pd mf mp cz' tl wq S1 := by
  obtain ⟨q1, q2, q3, q4, q5, q6, q7, q8, q9⟩ := h
  exact ⟨by rw [a1.i 1 4 (by decide)]; exact q1, by rw [a1.i 1 13 (by decide)]; exact q2, h8, by rw [a1.i 1 9 (by decide)]; exact q4, by rw [a1.i 1 12 (by decide)]; exact q5, q6.ag a1 (by decide) (by decide) (by decide), q7.ag a1 (by decide), fun w z => by rw [a1.a 3 5 (by decide)]; exact q8 w z, c1⟩
theorem cs_arith (h : CP v n S0 k 11 sd so ne sl lo wl vl T ex nN pd mf mp cz tl wq S) (hk : k ≤ 400) (hD : DOK T nN mf mp) {x : Nat} (hx : x = 5 ∨ x = 6 ∨ x = 7) (hK : tK v n k = x) (hvl : vl.length = nbW wl + 1) (hwl : wl.length < 40) : OUT v n S0 k (fun S' => CP v n S0 (k + 1) 9 sd so ne sl lo (x :: (rel (tg x) wl vl).1) (rel (tg x) wl vl).2 T ex nN pd mf mp (cz + (wl.length - (rel (tg x) wl vl).1.length)) tl wq S') := by
  obtain ⟨hL, h7, hb⟩ := h
  have hx2 : isB2 x = true := by rcases hx with rfl | rfl | rfl <;> rfl
  obtain ⟨S1, g1, a1, c1⟩ := g_join (x := x) (st := 9) hb.2.2.2.2.2.2.2.2 hD.1 hx2 hvl hwl
  have c1 := hb.jn (sd' := sd) (a1.wk (by decide) (by decide) (by decide) (by decide)) (by rw [a1.i 1 8 (by decide)]; exact hb.2.2.1) c1
  refine cl_go (S1 := S1) hL hk hb.1 (by rw [hK]; omega) (st := 9) (by decide) ?_ (a1.wk (by decide) (by decide) (by decide) (by decide)) c1.2.1 (fun S2 l2 a2 e2 => ⟨l2, e2, c1.ag a2⟩)
  rw [go_11 h7, hK]
  have g1 : f_Reader_join S (nI x) 9 = some (nI 9, S1) := g1
  by_cases c : gI S 1 12 ≤ 0
  · rw [if_pos c]
    unfold f_Reader_goOnBehindExpression Reader_goOnBehindExpression_j104
    rw [mb_nm, g1]
    rcases hx with rfl | rfl | rfl
    · rw [if_neg (by decide), if_pos (by rfl), mb_bd2]
    · rw [if_neg (by decide), if_neg (by decide), if_pos (by rfl), mb_bd2]
    · rw [if_neg (by decide), if_neg (by decide), if_neg (by decide), if_pos (by rfl), mb_bd2]
  · rw [if_neg c]
    unfold f_Reader_goOnInBrackets Reader_goOnInBrackets_j52
    rw [g1]
    rcases hx with rfl | rfl | rfl
    · rw [if_pos (by rfl), mb_bd2]
    · rw [if_neg (by decide), if_pos (by rfl), mb_bd2]
    · rw [if_neg (by decide), if_neg (by decide), if_pos (by rfl), mb_bd2]
/-- a bracket closes -/
theorem cs_close (h : CP v n S0 k 11 sd so ne sl lo wl vl T ex nN pd mf mp cz tl wq S) (hk : k ≤ 400) (hD : DOK T nN mf mp) (hK : tK v n k = 13) (hne : 0 < ne) (hne2 : ne ≤ 7) (hvl : vl.length = nbW wl + 1) {r : List Nat} (hr : (rel 1 wl vl).1 = 12 :: r) : OUT v n S0 k (fun S' => CP v n S0 (k + 1) 11 sd so (ne - 1) sl lo r (rel 1 wl vl).2 T ex nN pd mf mp (cz + (wl.length - (rel 1 wl vl).1.length)) tl wq S') := by
  obtain ⟨hL, h7, hb⟩ := h
  obtain ⟨q1, q2, q3, q4, q5, q6, q7, q8, q9⟩ := id hb
  obtain ⟨S1, g1, a1, c1⟩ := ce_release (t := 1) hD.1 (by decide) (by decide) q9 hvl
  have g1 : f_Reader_release S 1 = some S1 := g1
  rw [hr] at c1
  have c2 := ce_pop c1
  have a2 : agG [(3, 12), (1, 11), (1, 12)] [(3, 6), (3, 8), (3, 9)] [] [] S (pI (pI S1 1 11 (gI S1 1 11 - 1)) 1 12 (nI (ne - 1))) := ((a1.wk (by decide) (by decide) (by decide) (by decide)).tr (agG.pI S1 1 11 _ (by decide))).tr (agG.pI _ 1 12 _ (by decide))
  have a3 : agG [(1, 12)] [] [] [] (pI S1 1 11 (gI S1 1 11 - 1)) (pI (pI S1 1 11 (gI S1 1 11 - 1)) 1 12 (nI (ne - 1))) := agG.pI _ 1 12 _ (by decide)
  have c3 : CPb sd so (ne - 1) sl lo r (rel 1 wl vl).2 T ex nN pd mf mp (cz + (wl.length - (rel 1 wl vl).1.length)) tl wq (pI (pI S1 1 11 (gI S1 1 11 - 1)) 1 12 (nI (ne - 1))) := ⟨by rw [a2.i 1 4 (by decide)]; exact q1, by rw [a2.i 1 13 (by decide)]; exact q2, by rw [a2.i 1 8 (by decide)]; exact q3, by rw [a2.i 1 9 (by decide)]; exact q4, gI_s _ _ _ _, q6.ag a2 (by decide) (by decide) (by decide), q7.ag a2 (by decide), fun w z => by rw [a2.a 3 5 (by decide)]; exact q8 w z, by rw [hr]; exact c2.ag a3 (by decide) (by decide)⟩
  refine cl_go (S1 := pI (pI S1 1 11 (gI S1 1 11 - 1)) 1 12 (nI (ne - 1))) hL hk q1 (by rw [hK]; decide) (st := 11) (by decide) ?_ (a2.wk (by decide) (by decide) (by decide) (by decide)) c3.2.1 (fun S2 l2 a2 e2 => ⟨l2, e2, c3.ag a2⟩)
  rw [go_11b h7 q5 hne hne2, hK]
  unfold f_Reader_goOnInBrackets f_Reader_closeBracket
  rw [if_neg (by decide), if_neg (by decide), if_neg (by decide), if_neg (by decide), if_neg (by decide), if_neg (by decide), if_neg (by decide), if_neg (by decide), if_pos (by rfl), g1, mb_bd, mb_nm, gI_n _ _ (fun z => by omega), a1.i 1 12 (by decide), q5, show nI ne - 1 = nI (ne - 1) by rw [l1, pk_sub (by omega)], mb_nm, mb_bd2]
  rfl
theorem ib_x (x : Nat) (h27 : x < 27) (h5 : ¬ x = 5) (h6 : ¬ x = 6) (h7 : ¬ x = 7) (h13 : ¬ x = 13) : f_Reader_goOnInBrackets S (nI x) = some (-1, S) := by
  unfold f_Reader_goOnInBrackets Reader_goOnInBrackets_j65
  rw [if_neg (show ¬ nI x = 5 from nkI h27 (by decide) h5), if_neg (show ¬ nI x = 6 from nkI h27 (by decide) h6), if_neg (show ¬ nI x = 7 from nkI h27 (by decide) h7), if_neg (show ¬ nI x = 13 from nkI h27 (by decide) h13)]
  simp only [ite_self]
/-- inside brackets nothing else goes on -/
theorem cs_inref (h : CP v n S0 k 11 sd so ne sl lo wl vl T ex nN pd mf mp cz tl wq S) (hk : k ≤ 400) (hne : 0 < ne) (hne2 : ne ≤ 7) (hK : ¬ tK v n k = 0 ∧ ¬ tK v n k = 5 ∧ ¬ tK v n k = 6 ∧ ¬ tK v n k = 7 ∧ ¬ tK v n k = 13) : FOc S0 1 (tP v n k) := by
  obtain ⟨hL, h7, hb⟩ := h
  have h27 := (tK_lt (v := v) (n := n) k).1
  refine cl_ref (S1 := S) hL hk hb.1 hK.1 (Or.inl rfl) (x := -1) ?_ (agG.rf S) (Or.inl ⟨rfl, rfl⟩)
  rw [go_11b h7 hb.2.2.2.2.1 hne hne2, ib_x _ h27 hK.2.1 hK.2.2.1 hK.2.2.2.1 hK.2.2.2.2]
theorem be_8 : f_Reader_goOnBehindExpression S (nI 8) = Reader_goOnBehindExpression_j112 S (nI 8) (gI S 1 8) := by
  unfold f_Reader_goOnBehindExpression
  rw [mb_nm, if_neg (by decide), if_neg (by decide), if_neg (by decide), if_neg (by decide), if_pos (by rfl)]
theorem be_9 : f_Reader_goOnBehindExpression S (nI 9) = Reader_goOnBehindExpression_j112 S (nI 9) (gI S 1 8) := by
  unfold f_Reader_goOnBehindExpression
  rw [mb_nm, if_neg (by decide), if_neg (by decide), if_neg (by decide), if_neg (by decide), if_neg (by decide), if_pos (by rfl)]
theorem be_10 : f_Reader_goOnBehindExpression S (nI 10) = Reader_goOnBehindExpression_j112 S (nI 10) (gI S 1 8) := by
  unfold f_Reader_goOnBehindExpression
  rw [mb_nm, if_neg (by decide), if_neg (by decide), if_neg (by decide), if_neg (by decide), if_neg (by decide), if_neg (by decide), if_pos (by rfl)]
theorem be_11 : f_Reader_goOnBehindExpression S (nI 11) = Reader_goOnBehindExpression_j112 S (nI 11) (gI S 1 8) := by
  unfold f_Reader_goOnBehindExpression
  rw [mb_nm, if_neg (by decide), if_neg (by decide), if_neg (by decide), if_neg (by decide), if_neg (by decide), if_neg (by decide), if_neg (by decide), if_pos (by rfl)]
theorem be_23 : f_Reader_goOnBehindExpression S (nI 23) = Reader_goOnBehindExpression_j134 S (nI 23) (gI S 1 8) := by
  unfold f_Reader_goOnBehindExpression
  rw [mb_nm, if_neg (by decide), if_neg (by decide), if_neg (by decide), if_neg (by decide), if_neg (by decide), if_neg (by decide), if_neg (by decide), if_neg (by decide), if_neg (by decide), if_neg (by decide), if_neg (by decide), if_neg (by decide), if_neg (by decide), if_neg (by decide), if_neg (by decide), if_neg (by decide), if_neg (by decide), if_neg (by decide), if_neg (by decide), if_pos (by rfl)]
theorem be_24 : f_Reader_goOnBehindExpression S (nI 24) = Reader_goOnBehindExpression_j134 S (nI 24) (gI S 1 8) := by
  unfold f_Reader_goOnBehindExpression
  rw [mb_nm, if_neg (by decide), if_neg (by decide), if_neg (by decide), if_neg (by decide), if_neg (by decide), if_neg (by decide), if_neg (by decide), if_neg (by decide), if_neg (by decide), if_neg (by decide), if_neg (by decide), if_neg (by decide), if_neg (by decide), if_neg (by decide), if_neg (by decide), if_neg (by decide), if_neg (by decide), if_neg (by decide), if_neg (by decide), if_neg (by decide), if_pos (by rfl)]
theorem cs_cmp (h : CP v n S0 k 11 1 so 0 sl lo wl vl T ex nN pd mf mp cz tl wq S) (hk : k ≤ 400) (hD : DOK T nN mf mp) {x : Nat} (hx : 8 ≤ x ∧ x ≤ 11) (hK : tK v n k = x) (hvl : vl.length = nbW wl + 1) (hwl : wl.length < 40) : OUT v n S0 k (fun S' => CP v n S0 (k + 1) 9 2 so 0 sl lo (x :: (rel 4 wl vl).1) (rel 4 wl vl).2 T ex nN pd mf mp (cz + (wl.length - (rel 4 wl vl).1.length)) tl wq S') := by
  obtain ⟨hL, h7, hb⟩ := h
  have hx4 : x = 8 ∨ x = 9 ∨ x = 10 ∨ x = 11 := by omega
  have hx2 : isB2 x = true ∧ tg x = 4 := by rcases hx4 with rfl | rfl | rfl | rfl <;> exact ⟨rfl, rfl⟩
  have a0 : agG [(1, 8)] [] [] [] S (pI S 1 8 2) := agG.pI S 1 8 _ (by decide)
  obtain ⟨S1, g1, a1, c1⟩ := g_join (x := x) (st := 9) (hb.2.2.2.2.2.2.2.2.ag a0 (by decide) (by decide)) hD.1 hx2.1 hvl hwl
  rw [hx2.2] at c1
  have a01 : agG [(3, 12), (1, 11), (1, 8)] [(3, 6), (3, 8), (3, 9), (1, 1)] [] [] S S1 := (a0.wk (by decide) (by decide) (by decide) (by decide)).tr (a1.wk (by decide) (by decide) (by decide) (by decide))
  have c1 := hb.jn (sd' := 2) a01 (by rw [a1.i 1 8 (by decide), gI_s]; rfl) c1
  refine cl_go (S1 := S1) hL hk hb.1 (by rw [hK]; omega) (st := 9) (by decide) ?_ (a01.wk (by decide) (by decide) (by decide) (by decide)) c1.2.1 (fun S2 l2 a2 e2 => ⟨l2, e2, c1.ag a2⟩)
  rw [go_11e h7 hb.2.2.2.2.1, hK]
  have e : f_Reader_goOnBehindExpression S (nI x) = Reader_goOnBehindExpression_j112 S (nI x) (gI S 1 8) := by
    rcases hx4 with rfl | rfl | rfl | rfl
    · exact be_8
    · exact be_9
    · exact be_10
    · exact be_11
  have g1 : f_Reader_join (pI S 1 8 2) (nI x) 9 = some (nI 9, S1) := g1
  rw [e]
  unfold Reader_goOnBehindExpression_j112 Reader_goOnBehindExpression_j133
  rw [hb.2.2.1, mb_nm, if_pos (by rfl), g1, mb_bd2]
theorem cs_andor (h : CP v n S0 k 11 2 so 0 sl lo wl vl T ex nN pd mf mp cz tl wq S) (hk : k ≤ 400) (hD : DOK T nN mf mp) {x : Nat} (hx : x = 23 ∨ x = 24) (hK : tK v n k = x) (hvl : vl.length = nbW wl + 1) (hwl : wl.length < 40) : OUT v n S0 k (fun S' => CP v n S0 (k + 1) 8 1 so 0 sl lo (x :: (rel (tg x) wl vl).1) (rel (tg x) wl vl).2 T ex nN pd mf mp (cz + (wl.length - (rel (tg x) wl vl).1.length)) tl wq S') := by
  obtain ⟨hL, h7, hb⟩ := h
  have hx2 : isB2 x = true := by rcases hx with rfl | rfl <;> rfl
  have a0 : agG [(1, 8)] [] [] [] S (pI S 1 8 1) := agG.pI S 1 8 _ (by decide)
  obtain ⟨S1, g1, a1, c1⟩ := g_join (x := x) (st := 8) (hb.2.2.2.2.2.2.2.2.ag a0 (by decide) (by decide)) hD.1 hx2 hvl hwl
  have a01 : agG [(3, 12), (1, 11), (1, 8)] [(3, 6), (3, 8), (3, 9), (1, 1)] [] [] S S1 := (a0.wk (by decide) (by decide) (by decide) (by decide)).tr (a1.wk (by decide) (by decide) (by decide) (by decide))
  have c1 := hb.jn (sd' := 1) a01 (by rw [a1.i 1 8 (by decide), gI_s]; rfl) c1
  refine cl_go (S1 := S1) hL hk hb.1 (by rw [hK]; omega) (st := 8) (by decide) ?_ (a01.wk (by decide) (by decide) (by decide) (by decide)) c1.2.1 (fun S2 l2 a2 e2 => ⟨l2, e2, c1.ag a2⟩)
  rw [go_11e h7 hb.2.2.2.2.1, hK]
  have e : f_Reader_goOnBehindExpression S (nI x) = Reader_goOnBehindExpression_j134 S (nI x) (gI S 1 8) := by
    rcases hx with rfl | rfl
    · exact be_23
    · exact be_24
  have g1 : f_Reader_join (pI S 1 8 1) (nI x) 8 = some (nI 8, S1) := g1
  rw [e]
  unfold Reader_goOnBehindExpression_j134 Reader_goOnBehindExpression_j155
  rw [hb.2.2.1, mb_nm, if_pos (by rfl), g1, mb_bd2]
/-- the end of a tell -/
theorem cs_semi (h : CP v n S0 k 11 sd so 0 sl lo wl vl T ex nN pd mf mp cz tl wq S) (hk : k ≤ 400) (hD : DOK T nN mf mp) (hsd : sd = 0 ∨ sd = 2) (hK : tK v n k = 4) (hvl : vl.length = nbW wl + 1) : OUT v n S0 k (fun S' => CP v n S0 (k + 1) 0 sd so 0 sl lo (rel 1 wl vl).1 (rel 1 wl vl).2 T ex nN pd mf mp (cz + (wl.length - (rel 1 wl vl).1.length)) tl wq S') := by
  obtain ⟨hL, h7, hb⟩ := h
  obtain ⟨S1, g1, a1, c1⟩ := ce_release (t := 1) hD.1 (by decide) (by decide) hb.2.2.2.2.2.2.2.2 hvl
  have g1 : f_Reader_release S 1 = some S1 := g1
  have c1 := hb.jn (sd' := sd) (a1.wk (by decide) (by decide) (by decide) (by decide)) (by rw [a1.i 1 8 (by decide)]; exact hb.2.2.1) c1
  refine cl_go (S1 := S1) hL hk hb.1 (by rw [hK]; decide) (st := 0) (by decide) ?_ (a1.wk (by decide) (by decide) (by decide) (by decide)) c1.2.1 (fun S2 l2 a2 e2 => ⟨l2, e2, c1.ag a2⟩)
  rw [go_11e h7 hb.2.2.2.2.1, hK]
  unfold f_Reader_goOnBehindExpression Reader_goOnBehindExpression_j189
  rw [mb_nm, if_pos (by rfl), g1, mb_bd, hb.2.2.1, if_neg (by rcases hsd with rfl | rfl <;> decide)]
  rfl
/-- behind an expression nothing else goes on -/
theorem cs_exref (h : CP v n S0 k 11 sd so 0 sl lo wl vl T ex nN pd mf mp cz tl wq S) (hk : k ≤ 400) (hD : DOK T nN mf mp) (hvl : vl.length = nbW wl + 1) (hK : ¬ tK v n k = 0 ∧ ¬ tK v n k = 5 ∧ ¬ tK v n k = 6 ∧ ¬ tK v n k = 7) (hc : (sd = 0 ∧ ¬ tK v n k = 22 ∧ ¬ tK v n k = 4) ∨ (sd = 1 ∧ ¬ (8 ≤ tK v n k ∧ tK v n k ≤ 11)) ∨ (sd = 2 ∧ ¬ tK v n k = 23 ∧ ¬ tK v n k = 24 ∧ ¬ tK v n k = 4)) : FOc S0 1 (tP v n k) := by
  obtain ⟨hL, h7, hb⟩ := h
  have h27 := (tK_lt (v := v) (n := n) k).1
  obtain ⟨k0, k5, k6, k7⟩ := hK
  have hsd : sd < 3 := by omega
  have fin : ∀ S1, f_Reader_goOn S (nI (tK v n k)) = some (-1, S1) → agG gdI gdA gdB gdL S S1 → FOc S0 1 (tP v n k) := fun S1 g a => cl_ref (S1 := S1) hL hk hb.1 k0 (Or.inl rfl) (x := -1) g a (Or.inl ⟨rfl, rfl⟩)
  have h8 := hb.2.2.1
  have hgo : f_Reader_goOn S (nI (tK v n k)) = f_Reader_goOnBehindExpression S (nI (tK v n k)) := by
    rw [go_11e h7 hb.2.2.2.2.1]
  by_cases c4 : tK v n k = 4
  · have hs1 : sd = 1 := by omega
    obtain ⟨S1, g1, a1, c1⟩ := ce_release (t := 1) hD.1 (by decide) (by decide) hb.2.2.2.2.2.2.2.2 hvl
    have g1 : f_Reader_release S 1 = some S1 := g1
    refine fin S1 ?_ (a1.wk (by decide) (by decide) (by decide) (by decide))
    rw [hgo, c4]
    unfold f_Reader_goOnBehindExpression Reader_goOnBehindExpression_j189
    rw [mb_nm, if_pos (by rfl), g1, mb_bd, h8, hs1, if_pos (by rfl)]
  by_cases c22 : tK v n k = 22
  · have hs1 : ¬ sd = 0 := by omega
    refine fin (pI S 1 8 1) ?_ (agG.pI S 1 8 _ (by decide))
    rw [hgo, c22]
    unfold f_Reader_goOnBehindExpression Reader_goOnBehindExpression_j173
    rw [mb_nm, if_neg (by decide), if_neg (by decide), if_neg (by decide), if_neg (by decide), if_neg (by decide), if_neg (by decide), if_neg (by decide), if_neg (by decide), if_neg (by decide), if_neg (by decide), if_neg (by decide), if_neg (by decide), if_neg (by decide), if_neg (by decide), if_neg (by decide), if_neg (by decide), if_neg (by decide), if_neg (by decide), if_pos (by rfl), mb_nm, h8, if_neg (by rw [l0, mb_eq (by omega) (by omega)]; exact hs1)]
  by_cases cao : tK v n k = 23 ∨ tK v n k = 24
  · have hs1 : ¬ sd = 2 := by omega
    refine fin (pI S 1 8 1) ?_ (agG.pI S 1 8 _ (by decide))
    have e : f_Reader_goOnBehindExpression S (nI (tK v n k)) = Reader_goOnBehindExpression_j134 S (nI (tK v n k)) (gI S 1 8) := by
      rcases cao with z | z <;> rw [z]
      · exact be_23
      · exact be_24
    rw [hgo, e]
    unfold Reader_goOnBehindExpression_j134 Reader_goOnBehindExpression_j155
    rw [h8, mb_nm, if_neg (by rw [l2, mb_eq (by omega) (by omega)]; exact hs1)]
  by_cases ccm : 8 ≤ tK v n k ∧ tK v n k ≤ 11
  · have hs1 : ¬ sd = 1 := by omega
    have hx4 : tK v n k = 8 ∨ tK v n k = 9 ∨ tK v n k = 10 ∨ tK v n k = 11 := by omega
    refine fin (pI S 1 8 2) ?_ (agG.pI S 1 8 _ (by decide))
    have e : f_Reader_goOnBehindExpression S (nI (tK v n k)) = Reader_goOnBehindExpression_j112 S (nI (tK v n k)) (gI S 1 8) := by
      rcases hx4 with z | z | z | z <;> rw [z]
      · exact be_8
      · exact be_9
      · exact be_10
      · exact be_11
    rw [hgo, e]
    unfold Reader_goOnBehindExpression_j112 Reader_goOnBehindExpression_j133
    rw [h8, mb_nm, if_neg (by rw [l1, mb_eq (by omega) (by omega)]; exact hs1)]
  · refine fin S ?_ (agG.rf S)
    rw [hgo]
    unfold f_Reader_goOnBehindExpression Reader_goOnBehindExpression_j190
    rw [mb_nm, if_neg (show ¬ nI (tK v n k) = 4 from nkI h27 (by decide) c4), if_neg (show ¬ nI (tK v n k) = 5 from nkI h27 (by decide) k5), if_neg (show ¬ nI (tK v n k) = 6 from nkI h27 (by decide) k6), if_neg (show ¬ nI (tK v n k) = 7 from nkI h27 (by decide) k7), if_neg (show ¬ nI (tK v n k) = 8 from nkI h27 (by decide) (show ¬ tK v n k = 8 by omega)), if_neg (show ¬ nI (tK v n k) = 9 from nkI h27 (by decide) (show ¬ tK v n k = 9 by omega)), if_neg (show ¬ nI (tK v n k) = 10 from nkI h27 (by decide) (show ¬ tK v n k = 10 by omega)), if_neg (show ¬ nI (tK v n k) = 11 from nkI h27 (by decide) (show ¬ tK v n k = 11 by omega)), if_neg (show ¬ nI (tK v n k) = 22 from nkI h27 (by decide) c22), if_neg (show ¬ nI (tK v n k) = 23 from nkI h27 (by decide) (fun z => cao (Or.inl z))), if_neg (show ¬ nI (tK v n k) = 24 from nkI h27 (by decide) (fun z => cao (Or.inr z)))]
    simp only [ite_self]
/-! opening a slot -/
theorem g_open {T : Tx} {ex ex' : Option Sem} {so' sl' lo' : Nat} {S : St} (hq : gI S 3 12 = nI (min cz 400)) (hC : CLR lo S) (hs : slO T ex' sl' lo') (hlo : lo ≤ lo') (hQ : mf = 0 → cz ≤ 400 → CQ T ex' cz S) : ∃ S', f_Book_open S (nI sl') = some S' ∧ agG [] [(3, 7), (3, 8), (3, 9)] [] [] S S' ∧ CLR lo' S' ∧ (mf = 0 → cz ≤ 400 → CQ T ex' cz S' ∧ CG S' sl' cz [] (Nat.beq so' 3) (tNf T)) := by
  have h48 := hs.2.1
  unfold f_Book_open Book_open_j37
  rw [if_neg (nI_pos (by omega)), if_neg (by rw [show (48 : Int32) = nI 48 from rfl, mb_le (by omega) (by omega)]; omega), mb_in h48 (by decide), mb_gd, mb_nm, mb_cl (by omega), mb_gd, mb_nm, mb_gd, mb_nm, mb_IA, hq]
  obtain ⟨S1, eS⟩ : ∃ S1, S1 = pA (pA (pA S 3 7 sl' (nI (min cz 400))) 3 8 sl' (nI (min cz 400))) 3 9 sl' (-1) := ⟨_, rfl⟩
  rw [← eS]
  have a : agG [] [(3, 7), (3, 8), (3, 9)] [] [] S S1 := by
    rw [eS]
    exact ((agG.pA S 3 7 _ _ (by decide)).tr (agG.pA _ 3 8 _ _ (by decide))).tr (agG.pA _ 3 9 _ _ (by decide))
  have f7 : ∀ j, gA S1 3 7 j = if j = sl' then nI (min cz 400) else gA S 3 7 j := by
    intro j
    rw [eS, gA_n _ _ (fun z => by omega), gA_n _ _ (fun z => by omega), mb_AA]
    by_cases e : j = sl'
    · rw [if_pos ⟨rfl, rfl, e⟩, if_pos e]
    · rw [if_neg (fun z => e z.2.2), if_neg e]
  have f8 : ∀ j, gA S1 3 8 j = if j = sl' then nI (min cz 400) else gA S 3 8 j := by
    intro j
    rw [eS, gA_n _ _ (fun z => by omega), mb_AA]
    by_cases e : j = sl'
    · rw [if_pos ⟨rfl, rfl, e⟩, if_pos e]
    · rw [if_neg (fun z => e z.2.2), if_neg e, gA_n _ _ (fun z => by omega)]
  have f9 : ∀ j, gA S1 3 9 j = if j = sl' then -1 else gA S 3 9 j := by
    intro j
    rw [eS, mb_AA]
    by_cases e : j = sl'
    · rw [if_pos ⟨rfl, rfl, e⟩, if_pos e]
    · rw [if_neg (fun z => e z.2.2), if_neg e, gA_n _ _ (fun z => by omega), gA_n _ _ (fun z => by omega)]
  refine ⟨S1, rfl, a, fun j hj hj8 => ?_, fun m c => ⟨?_, ?_⟩⟩
  · have hn := hs.2.2.2.2 j hj hj8
    rw [f7, f8, f9, if_neg hn, if_neg hn, if_neg hn]
    exact hC j (by omega) hj8
  · exact (hQ m c).oth hs (Nat.le_refl _) (fun j _ => by rw [a.a 3 6 (by decide)]) (fun j hj => by rw [f7, if_neg hj]) (fun j hj => by rw [f8, if_neg hj]) (fun j hj => by rw [f9, if_neg hj])
  · refine ⟨cz, [], 0, by rw [f7, if_pos rfl, Nat.min_eq_left c], by rw [f8, if_pos rfl, Nat.min_eq_left c], rfl, c, fun i c hi => ?_, trivial, rfl, by decide, by rw [f9, if_pos rfl]; rfl, fun c hc => absurd hc List.not_mem_nil⟩
    have hi : (none : Option (Nat × Nat)) = some c := hi
    cases hi
theorem slO_if {T : Tx} (h8 : tNt T 4 < 8) (hN : ∀ s, s < 5 → tNt T s ≤ 8) (ex : Option Sem) : slO T ex (40 + tNt T 4) (tNt T 4 + 1) := by
  refine ⟨fun _ _ => by omega, by omega, fun s k hs hk => ?_, fun k hk => by omega, fun k hk _ => by omega⟩
  have := hN s (by omega)
  omega
/-- if: the amount is there, the condition begins -/
theorem cs_if (h : CP v n S0 k 11 0 4 0 (32 + tNt T 4) (tNt T 4) wl vl T none nN pd mf mp cz tl wq S) (hk : k ≤ 400) (hD : DOK T nN mf mp) (h8 : tNt T 4 < 8) (hN : ∀ s, s < 5 → tNt T s ≤ 8) (htl : tl 4 = tNt T 4 + 1) (hK : tK v n k = 22) (hvl : vl.length = nbW wl + 1) {am : Sem} (hr : rel 1 wl vl = ([], [am])) : OUT v n S0 k (fun S' => CP v n S0 (k + 1) 8 1 4 0 (40 + tNt T 4) (tNt T 4 + 1) [] [] T (some am) nN pd mf mp (cz + wl.length) tl wq S') := by
  obtain ⟨hL, h7, hb⟩ := h
  obtain ⟨q1, q2, q3, q4, q5, q6, q7, q8, q9⟩ := id hb
  have a0 : agG [(1, 8)] [] [] [] S (pI S 1 8 1) := agG.pI S 1 8 _ (by decide)
  obtain ⟨S1, g1, a1, c1⟩ := ce_release (t := 1) hD.1 (by decide) (by decide) (q9.ag a0 (by decide) (by decide)) hvl
  rw [hr] at c1
  have c1 : CW T none 4 (32 + tNt T 4) (tNt T 4) [] [am] mf (cz + wl.length) S1 := c1
  have g1 : f_Reader_release (pI S 1 8 1) 1 = some S1 := g1
  have q7' : gA S1 3 4 4 = nI (tNt T 4 + 1) := by rw [a1.a 3 4 (by decide), a0.a 3 4 (by decide), q7 4 (by decide), htl]
  have a2 : agG [(1, 10)] [] [] [] S1 (pI S1 1 10 (nI (40 + tNt T 4))) := agG.pI S1 1 10 _ (by decide)
  obtain ⟨p1, p2, p3, p4, p5, p6, p7, p8, p9⟩ := id c1
  obtain ⟨S3, g3, a3, cl3, m3⟩ := g_open (mf := mf) (cz := cz + wl.length) (lo := tNt T 4) (ex := some am) (ex' := some am) (so' := 4) (S := pI S1 1 10 (nI (40 + tNt T 4))) (by rw [a2.i 3 12 (by decide)]; exact p7) (p8.ag a2 (by decide)) (slO_if h8 hN (some am)) (Nat.le_succ _) (fun m c => by
    obtain ⟨w1, w2⟩ := p9 m c
    refine CQ.ag (a := a2) (h1 := by decide) ⟨fun am' ha => ?_, w1.2⟩
    cases ha
    exact ⟨cz + wl.length, Nat.le_refl _, w2⟩)
  have a13 : agG [(1, 8), (1, 10), (1, 11), (3, 12)] [(3, 6), (3, 7), (3, 8), (3, 9)] [] [] S S3 := (((a0.wk (by decide) (by decide) (by decide) (by decide)).tr (a1.wk (by decide) (by decide) (by decide) (by decide))).tr (a2.wk (by decide) (by decide) (by decide) (by decide))).tr (a3.wk (by decide) (by decide) (by decide) (by decide))
  have c3 : CPb 1 4 0 (40 + tNt T 4) (tNt T 4 + 1) [] [] T (some am) nN pd mf mp (cz + wl.length) tl wq S3 := ⟨by rw [a13.i 1 4 (by decide)]; exact q1, by rw [a13.i 1 13 (by decide)]; exact q2, by rw [a3.i 1 8 (by decide), a2.i 1 8 (by decide), a1.i 1 8 (by decide), gI_s]; rfl, by rw [a13.i 1 9 (by decide)]; exact q4, by rw [a13.i 1 12 (by decide)]; exact q5, q6.ag a13 (by decide) (by decide) (by decide), q7.ag a13 (by decide), (fun w z => by rw [a13.a 3 5 (by decide)]; exact q8 w z), slO_if h8 hN (some am), by rw [a3.i 1 10 (by decide), gI_s], by rw [a3.i 1 11 (by decide), a2.i 1 11 (by decide)]; exact p3, p4, p5, (fun i x hi => by have hi : (none : Option Nat) = some x := hi; cases hi), by rw [a3.i 3 12 (by decide), a2.i 3 12 (by decide)]; exact p7, cl3, m3⟩
  refine cl_go (S1 := S3) hL hk q1 (by rw [hK]; decide) (st := 8) (by decide) ?_ (a13.wk (by decide) (by decide) (by decide) (by decide)) c3.2.1 (fun S2 l2 a2 e2 => ⟨l2, e2, c3.ag a2⟩)
  rw [go_11e h7 q5, hK]
  have tld : f_Book_toldOf 3 S1 4 = some (nI (tNt T 4 + 1)) := by
    unfold f_Book_toldOf Book_toldOf_j23
    rw [if_neg (by decide), show lenC S1 3 4 = 6 from rfl, if_neg (by decide), show inb (4 : Int32) 6 = true from rfl, mb_gd, show ((4 : Int32)).toNatClampNeg = 4 from rfl, q7']
  unfold f_Reader_goOnBehindExpression Reader_goOnBehindExpression_j173 f_Reader_beginShareCondition
  rw [mb_nm, if_neg (by decide), if_neg (by decide), if_neg (by decide), if_neg (by decide), if_neg (by decide), if_neg (by decide), if_neg (by decide), if_neg (by decide), if_neg (by decide), if_neg (by decide), if_neg (by decide), if_neg (by decide), if_neg (by decide), if_neg (by decide), if_neg (by decide), if_neg (by decide), if_neg (by decide), if_neg (by decide), if_pos (by rfl), mb_nm, q3, if_pos (by rfl), g1, mb_bd, tld, mb_bd, show (40 : Int32) + nI (tNt T 4 + 1) - 1 = nI (40 + tNt T 4) by rw [show (40 : Int32) = nI 40 from rfl, nI_add, l1, pk_sub (by omega)]; congr 1, mb_nm, gI_s, g3, mb_bd, mb_bd2]
  rfl
