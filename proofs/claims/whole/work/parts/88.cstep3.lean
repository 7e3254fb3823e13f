/-! the class reads: tells begin, fields -/
def addC (T : Tx) (s : Nat) (b : BSem) (w : Nat) (am : (Nat → Int32) → Int32) : Tx := (tNf T, tFr T, tMa T, (fun j => if j = s then tNt T s + 1 else tNt T j), (fun s' k now old => if s' = s ∧ k = tNt T s then b now old else tCd T s' k now old), (fun k => if s = 1 ∧ k = tNt T 1 then w else tWt T k), fun k now => if s = 4 ∧ k = tNt T 4 then am now else tAm T k now)
def addF (T : Tx) (a m : Nat) : Tx := (tNf T + 1, (fun f => if f = tNf T then a else tFr T f), (fun f => if f = tNf T then m else tMa T f), tNt T, tCd T, tWt T, tAm T)
def upN (nN : Nat → List Nat) (f : Nat) (w : List Nat) : Nat → List Nat := fun j => if j = f then w else nN j
variable {v : Nat → Nat} {n : Nat} {S0 S S1 S' : St} {T : Tx} {ex : Option Sem} {nN : Nat → List Nat} {pd mf mp cz sd so ne sl lo k : Nat} {wq : Option Nat} {tl : Nat → Nat} {wl : List Nat} {vl : List Sem} {LI LA LB LL : List (Nat × Nat)}
/-! what a code hangs on -/
theorem ev_st {now now' old old' : Nat → Int32} {s : List Sem} (h : ev now old s = ev now' old' s) {c : Nat × Nat} (h2 : c.1 = 2 → now c.2 = now' c.2) (h3 : c.1 = 26 → old c.2 = old' c.2) : ev now old (stI c s) = ev now' old' (stI c s) := by
  unfold stI
  by_cases c1 : c.1 = 3
  · rw [if_pos c1]
    show nI c.2 :: ev now old s = nI c.2 :: ev now' old' s
    rw [h]
  rw [if_neg c1]
  by_cases c2 : c.1 = 2
  · rw [if_pos c2]
    show now c.2 :: ev now old s = now' c.2 :: ev now' old' s
    rw [h, h2 c2]
  rw [if_neg c2]
  by_cases c3 : c.1 = 26
  · rw [if_pos c3]
    show old c.2 :: ev now old s = old' c.2 :: ev now' old' s
    rw [h, h3 c3]
  rw [if_neg c3]
  by_cases c4 : c.1 = 25
  · rw [if_pos c4]
    cases s with
    | nil => rfl
    | cons f r =>
      have h : f now old :: ev now old r = f now' old' :: ev now' old' r := h
      injection h with e1 e2
      show (1 - f now old) :: ev now old r = (1 - f now' old') :: ev now' old' r
      rw [e1, e2]
  rw [if_neg c4]
  match s, h with
  | [], _ => rfl
  | [_], _ => rfl
  | g :: f :: r, h =>
    have h : g now old :: f now old :: ev now old r = g now' old' :: f now' old' :: ev now' old' r := h
    injection h with e1 e2
    injection e2 with e2 e3
    show apO c.1 (f now old) (g now old) :: ev now old r = apO c.1 (f now' old') (g now' old') :: ev now' old' r
    rw [e1, e2, e3]
theorem ev_rn {now now' old old' : Nat → Int32} : ∀ {is : List (Nat × Nat)} {s : List Sem}, ev now old s = ev now' old' s → (∀ c, c ∈ is → (c.1 = 2 → now c.2 = now' c.2) ∧ (c.1 = 26 → old c.2 = old' c.2)) → ev now old (rnS is s) = ev now' old' (rnS is s)
  | [], _, h, _ => h
  | c :: is, s, h, hc => ev_rn (is := is) (ev_st h (hc c List.mem_cons_self).1 (hc c List.mem_cons_self).2) (fun d hd => hc d (List.mem_cons_of_mem c hd))
/-- a code's one value: what it hangs on -/
theorem CG.dep {e nf : Nat} {f : Sem} {ol : Bool} (h : CG S sl e [f] ol nf) : ∃ r, r ≤ 6 ∧ gA S 3 9 sl = nI r - 1 ∧ ∀ now now' old old' : Nat → Int32, (∀ j, j < r → now j = now' j) → (ol = true → ∀ j, j < nf → old j = old' j) → f now old = f now' old' := by
  obtain ⟨b, is, r, t1, t2, t3, t4, t5, t6, t7, t8, t9, t10⟩ := h
  refine ⟨r, t8, t9, fun now now' old old' hn ho => ?_⟩
  have hnf : ∀ (is : List (Nat × Nat)) (s : List Sem), okI nf is s → ∀ c, c ∈ is → c.1 = 26 → c.2 < nf := by
    intro is
    induction is with
    | nil => intro s _ c hc; exact absurd hc List.not_mem_nil
    | cons d is ih =>
      intro s hk c hc h26
      rcases List.mem_cons.mp hc with z | z
      · subst z
        rcases hk.1 with ⟨y, -⟩ | ⟨-, y, -⟩ | ⟨y, -⟩ | ⟨y, -⟩
        · omega
        · exact y
        · omega
        · rw [h26] at y
          exact absurd y (by decide)
      · exact ih _ hk.2.2 c z h26
  have := ev_rn (is := is) (s := []) (now := now) (now' := now') (old := old) (old' := old') rfl (fun c hc => ⟨fun z => hn _ ((t10 c hc).1 z), fun z => ho ((t10 c hc).2 z) _ (hnf is [] t6 c hc z)⟩)
  rw [t7] at this
  have this : [f now old] = [f now' old'] := this
  injection this
theorem CG.mono {e nf nf' : Nat} {ol : Bool} (h : CG S sl e vl ol nf) (hn : nf ≤ nf') : CG S sl e vl ol nf' := by
  obtain ⟨b, is, r, t1, t2, t3, t4, t5, t6, t7, t8, t9, t10⟩ := h
  exact ⟨b, is, r, t1, t2, t3, t4, t5, okI_mono hn t6, t7, t8, t9, t10⟩
/-! finishing -/
theorem fin_c {b : BSem} {w : Nat} {am : (Nat → Int32) → Int32} (hso : so < 4) (h : CW T none so (8 * so + tNt T so) (tNt T 4) [] [fun now old => b2i (b now old)] mf cz S) : CW0 (addC T so b w am) (tNt T 4) mf cz S := by
  obtain ⟨q1, q2, q3, q4, q5, q6, q7, q8, q9⟩ := h
  refine ⟨q7, q8, fun m c => ?_⟩
  obtain ⟨w1, w2⟩ := q9 m c
  refine ⟨(fun _ z => by cases z), fun s k hs hk => ?_, fun k hk => ?_⟩
  · have hk : k < (if s = so then tNt T so + 1 else tNt T s) := hk
    show ∃ e, e ≤ cz ∧ CG S (8 * s + k) e [fun now old => b2i (if s = so ∧ k = tNt T so then b now old else tCd T s k now old)] (Nat.beq s 3) (tNf T)
    by_cases e : s = so ∧ k = tNt T so
    · obtain ⟨rfl, rfl⟩ := e
      refine ⟨cz, Nat.le_refl _, ?_⟩
      have ef : (fun now old => b2i (if s = s ∧ tNt T s = tNt T s then b now old else tCd T s (tNt T s) now old)) = (fun now old => b2i (b now old)) := by
        funext now old
        rw [if_pos ⟨rfl, rfl⟩]
      rw [ef]
      exact w2
    · have hk : k < tNt T s := by
        by_cases z : s = so
        · rw [if_pos z] at hk
          have : ¬ k = tNt T so := fun y => e ⟨z, y⟩
          rw [z]
          omega
        · rw [if_neg z] at hk
          exact hk
      have ef : (fun now old => b2i (if s = so ∧ k = tNt T so then b now old else tCd T s k now old)) = (fun now old => b2i (tCd T s k now old)) := by
        funext now old
        rw [if_neg e]
      rw [ef]
      exact w1.2.1 s k hs hk
  · have hk : k < (if 4 = so then tNt T so + 1 else tNt T 4) := hk
    rw [if_neg (by omega)] at hk
    have e1 : tAm (addC T so b w am) k = tAm T k := by
      funext now
      show (if so = 4 ∧ k = tNt T 4 then am now else tAm T k now) = _
      rw [if_neg (fun z => by omega)]
    have e2 : tCd (addC T so b w am) 4 k = tCd T 4 k := by
      funext now old
      show (if 4 = so ∧ k = tNt T so then b now old else tCd T 4 k now old) = _
      rw [if_neg (fun z => by omega)]
    rw [e1, e2]
    exact w1.2.2 k hk
/-- what stands of the shares before the newest -/
theorem fin_sh {b : BSem} {w : Nat} {am : (Nat → Int32) → Int32} {ex : Option Sem} (w1 : CQ T ex cz S) (hA : ∃ e, e ≤ cz ∧ CG S (32 + tNt T 4) e [fun now _ => am now] false (tNf T)) (hB : (gA S 3 7 (40 + tNt T 4) = 0 ∧ gA S 3 8 (40 + tNt T 4) = 0 ∧ gA S 3 9 (40 + tNt T 4) = -1 ∧ ∀ now old, b now old = true) ∨ ∃ e, e ≤ cz ∧ CG S (40 + tNt T 4) e [fun now old => b2i (b now old)] false (tNf T)) : CQ (addC T 4 b w am) none cz S := by
  refine ⟨(fun _ z => by cases z), fun s k hs hk => ?_, fun k hk => ?_⟩
  · have hk : k < (if s = 4 then tNt T 4 + 1 else tNt T s) := hk
    rw [if_neg (by omega)] at hk
    have e2 : tCd (addC T 4 b w am) s k = tCd T s k := by
      funext now old
      show (if s = 4 ∧ k = tNt T 4 then b now old else tCd T s k now old) = _
      rw [if_neg (fun z => by omega)]
    rw [e2]
    exact w1.2.1 s k hs hk
  · have hk : k < (if 4 = 4 then tNt T 4 + 1 else tNt T 4) := hk
    rw [if_pos rfl] at hk
    by_cases e : k = tNt T 4
    · subst e
      have e1 : tAm (addC T 4 b w am) (tNt T 4) = am := by
        funext now
        show (if 4 = 4 ∧ tNt T 4 = tNt T 4 then am now else tAm T (tNt T 4) now) = _
        rw [if_pos ⟨rfl, rfl⟩]
      have e2 : tCd (addC T 4 b w am) 4 (tNt T 4) = b := by
        funext now old
        show (if 4 = 4 ∧ tNt T 4 = tNt T 4 then b now old else tCd T 4 (tNt T 4) now old) = _
        rw [if_pos ⟨rfl, rfl⟩]
      rw [e1, e2]
      exact ⟨hA, hB⟩
    · have e1 : tAm (addC T 4 b w am) k = tAm T k := by
        funext now
        show (if 4 = 4 ∧ k = tNt T 4 then am now else tAm T k now) = _
        rw [if_neg (fun z => e z.2)]
      have e2 : tCd (addC T 4 b w am) 4 k = tCd T 4 k := by
        funext now old
        show (if 4 = 4 ∧ k = tNt T 4 then b now old else tCd T 4 k now old) = _
        rw [if_neg (fun z => e z.2)]
      rw [e1, e2]
      exact w1.2.2 k (by omega)
theorem CG.amt {e nf : Nat} {f : Sem} (h : CG S sl e [f] false nf) : CG S sl e [fun now _ => f now (fun _ => 0)] false nf := by
  obtain ⟨r, -, -, hd⟩ := h.dep
  have : f = (fun now _ => f now (fun _ => 0)) := by
    funext now old
    exact hd now now old (fun _ => 0) (fun _ _ => rfl) (fun z => by cases z)
  rw [← this]
  exact h
theorem fin_s0 {f : Sem} {w : Nat} (h8 : tNt T 4 < 8) (h : CW T none 4 (32 + tNt T 4) (tNt T 4) [] [f] mf cz S) : CW0 (addC T 4 (fun _ _ => true) w (fun now => f now (fun _ => 0))) (tNt T 4 + 1) mf cz S := by
  obtain ⟨q1, q2, q3, q4, q5, q6, q7, q8, q9⟩ := h
  refine ⟨q7, fun j hj hj8 => q8 j (by omega) hj8, fun m c => ?_⟩
  obtain ⟨w1, w2⟩ := q9 m c
  obtain ⟨g1, g2, g3⟩ := q8 (tNt T 4) (Nat.le_refl _) h8
  exact fin_sh w1 ⟨cz, Nat.le_refl _, w2.amt⟩ (Or.inl ⟨g1, g2, g3, fun _ _ => rfl⟩)
theorem fin_s1 {f : Sem} {b : BSem} {w : Nat} (h : CW T (some f) 4 (40 + tNt T 4) (tNt T 4 + 1) [] [fun now old => b2i (b now old)] mf cz S) : CW0 (addC T 4 b w (fun now => f now (fun _ => 0))) (tNt T 4 + 1) mf cz S := by
  obtain ⟨q1, q2, q3, q4, q5, q6, q7, q8, q9⟩ := h
  refine ⟨q7, q8, fun m c => ?_⟩
  obtain ⟨w1, w2⟩ := q9 m c
  obtain ⟨e, e1, e2⟩ := w1.1 f rfl
  exact fin_sh w1 ⟨e, e1, e2.amt⟩ (Or.inr ⟨cz, Nat.le_refl _, w2⟩)
/-! tells begin -/
def CPz (v : Nat → Nat) (n : Nat) (S0 : St) (k st lo : Nat) (T : Tx) (nN : Nat → List Nat) (pd mf mp cz : Nat) (S : St) : Prop := LK v n S0 k S ∧ gI S 1 7 = nI st ∧ CP0b lo T nN pd mf mp cz (tNt T) S
theorem CP0b.sp {lo : Nat} (h : CP0b lo T nN pd mf mp cz tl S) (a : agG spI [] [] [(2, 6)] S S') : CP0b lo T nN pd mf mp cz tl S' := h.ag a (by decide) (by decide) (by decide)
theorem go_0 (h : gI S 1 7 = nI 0) (x : Int32) : f_Reader_goOn S x = f_Reader_beginTell S x := by
  unfold f_Reader_goOn
  rw [h, mb_nm, if_pos (by rfl)]
  exact bd2_eta _
/-- the sort that a word begins, its state -/
def bgS (so : Nat) : Nat := if so = 1 then 7 else if so = 4 then 9 else 8
theorem slO_bg {T : Tx} (hso : so < 5) (h8 : tNt T so < 8) (hN : ∀ s, s < 5 → tNt T s ≤ 8) : slO T none (8 * so + tNt T so) (tNt T 4) := by
  refine ⟨fun _ z => by (cases z), by omega, fun s k hs hk => ?_, fun k hk => ?_, fun k hk hk8 => by omega⟩
  · have := hN s (by omega)
    intro e
    have : s = so := by omega
    subst this
    omega
  · have := hN 4 (by omega)
    refine ⟨fun e => ?_, fun e => by omega⟩
    have : so = 4 := by omega
    subst this
    omega
def tlU (T : Tx) (so : Nat) : Nat → Nat := fun s => if s = so then tNt T s + 1 else tNt T s
theorem c_told3 (h : TLd tl S) (hso : so < 5) : f_Book_toldOf 3 S (nI so) = some (nI (tl so)) := by
  unfold f_Book_toldOf Book_toldOf_j23
  rw [if_neg (nI_pos (by omega)), show lenC S 3 4 = 6 from rfl, if_neg (by rw [mb_le (by omega) (by omega)]; omega), mb_in (by omega) (by decide), mb_gd, mb_cl (by omega), h so hso]
theorem g_begin (h : CP0b (tNt T 4) T nN pd mf mp cz (tNt T) S) (hso : so < 5) (hN : ∀ s, s < 5 → tNt T s ≤ 8) (x : Int32) : ∃ S1, f_Reader_beginSort S (nI so) x = some (x, S1) ∧ agG gdI gdA gdB gdL S S1 ∧ ((tNt T so = 8 ∧ ¬ gI S1 1 13 = 0) ∨ (tNt T so < 8 ∧ CPb (if so = 4 then 0 else 1) so 0 (8 * so + tNt T so) (tNt T 4) [] [] T none nN pd mf mp cz (tlU T so) none S1)) := by
  obtain ⟨q1, q2, q3, q4, q5, q6⟩ := h
  have hle := hN so hso
  unfold f_Reader_beginSort
  rw [c_told3 q5 hso, mb_bd]
  by_cases c : tNt T so < 8
  · rw [if_pos (by rw [l8, mb_lt (by omega) (by omega)]; exact c)]
    unfold Reader_beginSort_j21
    rw [show isB (0 : Int32) = true from rfl, mb_gd, mb_nm, gI_s, if_pos (by rfl), mb_nm]
    obtain ⟨S2, eS2⟩ : ∃ S2, S2 = pI (pI (pI (pI (pI S 1 13 0) 1 9 (nI so)) 1 8 (nI (if so = 4 then 0 else 1))) 1 10 (nI (8 * so + tNt T so))) 1 11 0 := ⟨_, rfl⟩
    have a2 : agG [(1, 8), (1, 9), (1, 10), (1, 11), (1, 13)] [] [] [] S S2 := by
      rw [eS2]
      exact ((((agG.pI S 1 13 _ (by decide)).tr (agG.pI _ 1 9 _ (by decide))).tr (agG.pI _ 1 8 _ (by decide))).tr (agG.pI _ 1 10 _ (by decide))).tr (agG.pI _ 1 11 _ (by decide))
    have f13 : gI S2 1 13 = 0 := by rw [eS2, gI_n _ _ (fun z => by omega), gI_n _ _ (fun z => by omega), gI_n _ _ (fun z => by omega), gI_n _ _ (fun z => by omega), gI_s]
    have f9 : gI S2 1 9 = nI so := by rw [eS2, gI_n _ _ (fun z => by omega), gI_n _ _ (fun z => by omega), gI_n _ _ (fun z => by omega), gI_s]
    have f8 : gI S2 1 8 = nI (if so = 4 then 0 else 1) := by rw [eS2, gI_n _ _ (fun z => by omega), gI_n _ _ (fun z => by omega), gI_s]
    have f10 : gI S2 1 10 = nI (8 * so + tNt T so) := by rw [eS2, gI_n _ _ (fun z => by omega), gI_s]
    have f11 : gI S2 1 11 = nI 0 := by rw [eS2, gI_s]; rfl
    have hsl := slO_bg (T := T) hso c hN
    obtain ⟨S3, g3, a3, cl3, m3⟩ := g_open (mf := mf) (cz := cz) (lo := tNt T 4) (ex := none) (ex' := none) (so' := so) (S := S2) (by rw [a2.i 3 12 (by decide)]; exact q6.1) (q6.2.1.ag a2 (by decide)) hsl (Nat.le_refl _) (fun m c => (q6.2.2 m c).ag a2 (by decide))
    have tl3 : TLd (tNt T) S3 := (q5.ag a2 (by decide)).ag a3 (by decide)
    have a4 : agG [] [(3, 4)] [] [] S3 (pA S3 3 4 so (nI (tNt T so + 1))) := agG.pA S3 3 4 _ _ (by decide)
    have run : ∀ t1 : Int32, t1 = nI (if so = 4 then 0 else 1) → Reader_beginSort_j47 (pI (pI S 1 13 0) 1 9 (nI so)) (nI so) x (nI (tNt T so)) t1 = some (x, pA S3 3 4 so (nI (tNt T so + 1))) := by
      intro t1 ht
      subst ht
      unfold Reader_beginSort_j47 Reader_beginSort_j84 f_Book_addTold Book_addTold_j23
      rw [mb_nm, l8, pk_mul, nI_add, Nat.mul_comm so 8, mb_nm, mb_nm, ← eS2, f10, g3, mb_bd, if_neg (nI_pos (by omega)), if_neg (by rw [mb_le (by omega) (by omega)]; omega), mb_in (by omega) (by decide), mb_gd, mb_gd, mb_cl (by omega), tl3 so hso, nI_1, mb_nm, mb_bd]
    have a14 : agG [(1, 8), (1, 9), (1, 10), (1, 11), (1, 13)] [(3, 4), (3, 7), (3, 8), (3, 9)] [] [] S (pA S3 3 4 so (nI (tNt T so + 1))) := ((a2.wk (by decide) (by decide) (by decide) (by decide)).tr (a3.wk (by decide) (by decide) (by decide) (by decide))).tr (a4.wk (by decide) (by decide) (by decide) (by decide))
    refine ⟨pA S3 3 4 so (nI (tNt T so + 1)), ?_, a14.wk (by decide) (by decide) (by decide) (by decide), Or.inr ⟨c, ?_⟩⟩
    · by_cases d : so = 4
      · rw [if_pos (by rw [d]; rfl)]
        exact run 0 (by rw [if_pos d]; rfl)
      · rw [if_neg (by rw [l4, mb_eq (by omega) (by omega)]; exact d)]
        exact run 1 (by rw [if_neg d]; rfl)
    · refine ⟨?_, ?_, ?_, ?_, ?_, q4.ag a14 (by decide) (by decide) (by decide), fun s hs => ?_, fun w z => (by cases z), hsl, ?_, ?_, by decide, fun y hy => absurd hy List.not_mem_nil, fun i y hi => ?_, ?_, cl3.ag a4 (by decide), fun m c => ⟨(m3 m c).1.ag a4 (by decide), (m3 m c).2.ag a4 (by decide)⟩⟩
      · rw [a14.i 1 4 (by decide)]; exact q1
      · rw [a4.i 1 13 (by decide), a3.i 1 13 (by decide)]; exact f13
      · rw [a4.i 1 8 (by decide), a3.i 1 8 (by decide)]; exact f8
      · rw [a4.i 1 9 (by decide), a3.i 1 9 (by decide)]; exact f9
      · rw [a14.i 1 12 (by decide)]; exact q3
      · unfold tlU
        rw [mb_AA]
        by_cases e : s = so
        · rw [if_pos ⟨rfl, rfl, e⟩, if_pos e, e]
        · rw [if_neg (fun z => e z.2.2), if_neg e]; exact tl3 s hs
      · rw [a4.i 1 10 (by decide), a3.i 1 10 (by decide)]; exact f10
      · rw [a4.i 1 11 (by decide), a3.i 1 11 (by decide)]; exact f11
      · have hi : (none : Option Nat) = some y := hi
        cases hi
      · rw [a14.i 3 12 (by decide)]; exact q6.1
  · rw [if_neg (by rw [l8, mb_lt (by omega) (by omega)]; exact c)]
    unfold Reader_beginSort_j21 Reader_beginSort_j84
    rw [show isB (1 : Int32) = true from rfl, mb_gd, mb_nm, gI_s, if_neg (by decide)]
    exact ⟨_, rfl, agG.pI S 1 13 _ (by decide), Or.inl ⟨by omega, by rw [gI_s]; decide⟩⟩
