/-! the class reads: codes, waiting signs -/
def tg (x : Nat) : Nat := if x = 7 then 6 else if x = 5 then 5 else if x = 6 then 5 else if x = 8 then 4 else if x = 9 then 4 else if x = 10 then 4 else if x = 11 then 4 else if x = 25 then 3 else if x = 24 then 2 else if x = 23 then 1 else 0
theorem tg_c : ∀ x, x < 32 → f_Reader_tightness (nI x) = some (nI (tg x)) := by decide +kernel
def rel (t : Nat) : List Nat → List Sem → List Nat × List Sem
  | [], vl => ([], vl)
  | x :: r, vl => if tg x < t then (x :: r, vl) else rel t r (stI (x, 0) vl)
def nbW : List Nat → Nat
  | [] => 0
  | x :: r => nbW r + cond (isB2 x) 1 0
def okW (wl : List Nat) : Prop := ∀ x ∈ wl, isB2 x = true ∨ x = 25 ∨ x = 12
theorem nbW_le : ∀ wl : List Nat, nbW wl ≤ wl.length
  | [] => Nat.le_refl 0
  | x :: r => by
    have := nbW_le r
    show nbW r + cond (isB2 x) 1 0 ≤ r.length + 1
    cases isB2 x <;> (show nbW r + _ ≤ _; simp; omega)
def CG (S : St) (sl e : Nat) (vl : List Sem) (ol : Bool) (nf : Nat) : Prop := ∃ b is r, gA S 3 7 sl = nI b ∧ gA S 3 8 sl = nI e ∧ e = b + is.length ∧ e ≤ 400 ∧ (∀ i c, is[i]? = some c → gA S 3 6 (b + i) = wd c) ∧ okI nf is [] ∧ rnS is [] = vl ∧ r ≤ 6 ∧ gA S 3 9 sl = nI r - 1 ∧ ∀ c, c ∈ is → (c.1 = 2 → c.2 < r) ∧ (c.1 = 26 → ol = true)
def CQ (T : Tx) (ex : Option Sem) (cz : Nat) (S : St) : Prop := (∀ am, ex = some am → ∃ e, e ≤ cz ∧ CG S (32 + tNt T 4) e [am] false (tNf T)) ∧ (∀ s k, s < 4 → k < tNt T s → ∃ e, e ≤ cz ∧ CG S (8 * s + k) e [fun now old => b2i (tCd T s k now old)] (Nat.beq s 3) (tNf T)) ∧ ∀ k, k < tNt T 4 → (∃ e, e ≤ cz ∧ CG S (32 + k) e [fun now _ => tAm T k now] false (tNf T)) ∧ ((gA S 3 7 (40 + k) = 0 ∧ gA S 3 8 (40 + k) = 0 ∧ gA S 3 9 (40 + k) = -1 ∧ ∀ now old, tCd T 4 k now old = true) ∨ ∃ e, e ≤ cz ∧ CG S (40 + k) e [fun now old => b2i (tCd T 4 k now old)] false (tNf T))
def CLR (lo : Nat) (S : St) : Prop := ∀ k, lo ≤ k → k < 8 → gA S 3 7 (40 + k) = 0 ∧ gA S 3 8 (40 + k) = 0 ∧ gA S 3 9 (40 + k) = -1
def slO (T : Tx) (ex : Option Sem) (sl lo : Nat) : Prop := (∀ am, ex = some am → ¬ 32 + tNt T 4 = sl) ∧ sl < 48 ∧ (∀ s k, s < 4 → k < tNt T s → ¬ 8 * s + k = sl) ∧ (∀ k, k < tNt T 4 → ¬ 32 + k = sl ∧ ¬ 40 + k = sl) ∧ ∀ k, lo ≤ k → k < 8 → ¬ 40 + k = sl
def CW (T : Tx) (ex : Option Sem) (so sl lo : Nat) (wl : List Nat) (vl : List Sem) (mf cz : Nat) (S : St) : Prop := slO T ex sl lo ∧ gI S 1 10 = nI sl ∧ gI S 1 11 = nI wl.length ∧ wl.length ≤ 40 ∧ okW wl ∧ (∀ i x, wl[i]? = some x → gA S 1 1 (wl.length - 1 - i) = nI x) ∧ gI S 3 12 = nI (min cz 400) ∧ CLR lo S ∧ (mf = 0 → cz ≤ 400 → CQ T ex cz S ∧ CG S sl cz vl (Nat.beq so 3) (tNf T))
variable {T : Tx} {ex : Option Sem} {S S' : St} {so sl lo mf cz : Nat} {wl : List Nat} {vl : List Sem} {LI LA LB LL : List (Nat × Nat)}
theorem CG.ag {e nf : Nat} {ol : Bool} (h : CG S sl e vl ol nf) (a : agG LI LA LB LL S S') (h1 : (3, 6) ∉ LA ∧ (3, 7) ∉ LA ∧ (3, 8) ∉ LA ∧ (3, 9) ∉ LA) : CG S' sl e vl ol nf := by
  unfold CG
  rw [a.a 3 6 h1.1, a.a 3 7 h1.2.1, a.a 3 8 h1.2.2.1, a.a 3 9 h1.2.2.2]
  exact h
theorem CQ.ag (h : CQ T ex cz S) (a : agG LI LA LB LL S S') (h1 : (3, 6) ∉ LA ∧ (3, 7) ∉ LA ∧ (3, 8) ∉ LA ∧ (3, 9) ∉ LA) : CQ T ex cz S' := by
  refine ⟨fun am ha => ?_, fun s k hs hk => ?_, fun k hk => ⟨?_, ?_⟩⟩
  · obtain ⟨e, e1, e2⟩ := h.1 am ha
    exact ⟨e, e1, e2.ag a h1⟩
  · obtain ⟨e, e1, e2⟩ := h.2.1 s k hs hk
    exact ⟨e, e1, e2.ag a h1⟩
  · obtain ⟨e, e1, e2⟩ := (h.2.2 k hk).1
    exact ⟨e, e1, e2.ag a h1⟩
  · rcases (h.2.2 k hk).2 with q | ⟨e, e1, e2⟩
    · rw [a.a 3 7 h1.2.1, a.a 3 8 h1.2.2.1, a.a 3 9 h1.2.2.2]
      exact Or.inl q
    · exact Or.inr ⟨e, e1, e2.ag a h1⟩
theorem CW.ag (h : CW T ex so sl lo wl vl mf cz S) (a : agG LI LA LB LL S S') (h1 : (1, 10) ∉ LI ∧ (1, 11) ∉ LI ∧ (3, 12) ∉ LI) (h2 : (1, 1) ∉ LA ∧ (3, 6) ∉ LA ∧ (3, 7) ∉ LA ∧ (3, 8) ∉ LA ∧ (3, 9) ∉ LA) : CW T ex so sl lo wl vl mf cz S' := by
  obtain ⟨q1, q2, q3, q4, q5, q6, q7, q8, q9⟩ := h
  refine ⟨q1, by rw [a.i 1 10 h1.1]; exact q2, by rw [a.i 1 11 h1.2.1]; exact q3, q4, q5, by rw [a.a 1 1 h2.1]; exact q6, by rw [a.i 3 12 h1.2.2]; exact q7, ?_, fun m c => ⟨(q9 m c).1.ag a h2.2, (q9 m c).2.ag a h2.2⟩⟩
  unfold CLR
  rw [a.a 3 7 h2.2.2.1, a.a 3 8 h2.2.2.2.1, a.a 3 9 h2.2.2.2.2]
  exact q8
theorem CW.bad {mf' : Nat} {vl' : List Sem} (h : CW T ex so sl lo wl vl mf cz S) (hm : ¬ mf' = 0) : CW T ex so sl lo wl vl' mf' cz S := ⟨h.1, h.2.1, h.2.2.1, h.2.2.2.1, h.2.2.2.2.1, h.2.2.2.2.2.1, h.2.2.2.2.2.2.1, h.2.2.2.2.2.2.2.1, fun m => absurd m hm⟩
/-- what another slot's code says stays -/
theorem CG.oth {sl' e nf : Nat} {vl' : List Sem} {ol : Bool} (h : CG S sl' e vl' ol nf) (hne : ¬ sl' = sl) (hez : e ≤ cz) (h6 : ∀ j, j < cz → gA S' 3 6 j = gA S 3 6 j) (h7 : gA S' 3 7 sl' = gA S 3 7 sl') (h8 : gA S' 3 8 sl' = gA S 3 8 sl') (h9 : gA S' 3 9 sl' = gA S 3 9 sl') : CG S' sl' e vl' ol nf := by
  obtain ⟨b, is, r, q1, q2, q3, q4, q5, q6, q7, q8, q9, q10⟩ := h
  refine ⟨b, is, r, by rw [h7]; exact q1, by rw [h8]; exact q2, q3, q4, fun i c hi => ?_, q6, q7, q8, by rw [h9]; exact q9, q10⟩
  have hlt := (List.getElem?_eq_some_iff.mp hi).1
  rw [h6 (b + i) (by omega)]
  exact q5 i c hi
theorem CQ.oth {cz' : Nat} (h : CQ T ex cz S) (hs : slO T ex sl lo) (hcz : cz ≤ cz') (h6 : ∀ j, j < cz → gA S' 3 6 j = gA S 3 6 j) (h7 : ∀ j, ¬ j = sl → gA S' 3 7 j = gA S 3 7 j) (h8 : ∀ j, ¬ j = sl → gA S' 3 8 j = gA S 3 8 j) (h9 : ∀ j, ¬ j = sl → gA S' 3 9 j = gA S 3 9 j) : CQ T ex cz' S' := by
  refine ⟨fun am ha => ?_, fun s k hs2 hk => ?_, fun k hk => ⟨?_, ?_⟩⟩
  · have hn := hs.1 am ha
    obtain ⟨e, e1, e2⟩ := h.1 am ha
    exact ⟨e, by omega, e2.oth (sl := sl) (cz := cz) hn e1 h6 (h7 _ hn) (h8 _ hn) (h9 _ hn)⟩
  · have hn := hs.2.2.1 s k hs2 hk
    obtain ⟨e, e1, e2⟩ := h.2.1 s k hs2 hk
    exact ⟨e, by omega, e2.oth (sl := sl) (cz := cz) hn e1 h6 (h7 _ hn) (h8 _ hn) (h9 _ hn)⟩
  · have hn := (hs.2.2.2.1 k hk).1
    obtain ⟨e, e1, e2⟩ := (h.2.2 k hk).1
    exact ⟨e, by omega, e2.oth (sl := sl) (cz := cz) hn e1 h6 (h7 _ hn) (h8 _ hn) (h9 _ hn)⟩
  · have hn := (hs.2.2.2.1 k hk).2
    rcases (h.2.2 k hk).2 with q | ⟨e, e1, e2⟩
    · rw [h7 _ hn, h8 _ hn, h9 _ hn]
      exact Or.inl q
    · exact Or.inr ⟨e, by omega, e2.oth (sl := sl) (cz := cz) hn e1 h6 (h7 _ hn) (h8 _ hn) (h9 _ hn)⟩
theorem shl5 {d k : Nat} (hd : d < 10000) (hk : k < 32) : (nI d <<< ((5 : Int32) &&& 31)) ||| nI k = nI (32 * d + k) := by
  rw [pk_shlN _ 5 (by decide) (by omega), nI_or]
  congr 1
  have := Nat.two_pow_add_eq_or_of_lt (show k < 2 ^ 5 by omega) d
  rw [show (2 : Nat) ^ 5 = 32 from rfl] at this ⊢
  rw [Nat.mul_comm d 32, ← this]
theorem re_le : ∀ d, d < 6 → ∀ r, r ≤ 6 → (nI d ≤ nI r - 1 ↔ d < r) := by decide
theorem re_eq : ∀ d, d < 6 → nI d = nI (d + 1) - 1 := by decide
def emA : List (Nat × Nat) := [(3, 6), (3, 8), (3, 9)]
theorem ce_emit (h : CW T ex so sl lo wl vl mf cz S) {k d : Nat} (hk : k < 32) (hd : d < 10000) (hn6 : tNf T ≤ 6) (hok : mf = 0 → ok1 (tNf T) (k, d) vl.length ∧ vl.length ≤ 61 ∧ (k = 26 → Nat.beq so 3 = true)) : ∃ S', f_Book_emit S (nI sl) (nI k) (nI d) = some S' ∧ agG [(3, 12)] emA [] [] S S' ∧ CW T ex so sl lo wl (stI (k, d) vl) mf (cz + 1) S' := by
  obtain ⟨q1, q2, q3, q4, q5, q6, q7, q8, q9⟩ := h
  have hs := q1.2.1
  unfold f_Book_emit Book_emit_j22
  rw [if_neg (nI_pos (by omega)), if_neg (by rw [show (48 : Int32) = nI 48 from rfl, mb_le (by omega) (by omega)]; omega), q7]
  by_cases c : cz < 400
  · rw [Nat.min_eq_left (by omega), if_pos (by rw [mb_lt (by omega) (by omega)]; exact c), mb_in c (by decide), mb_gd, mb_nm, shl5 hd hk, mb_cl (by omega), mb_nm, mb_IA, q7, Nat.min_eq_left (by omega), nI_1, gI_s, mb_in hs (by decide), mb_gd, mb_nm, mb_cl (by omega)]
    -- what is there before the reach
    obtain ⟨S3, eS3⟩ : ∃ S3, S3 = pA (pI (pA S 3 6 cz (nI (32 * d + k))) 3 12 (nI (cz + 1))) 3 8 sl (nI (cz + 1)) := ⟨_, rfl⟩
    rw [← eS3]
    have a3 : agG [(3, 12)] emA [] [] S S3 := by
      rw [eS3]
      exact ((agG.pA S 3 6 _ _ (by decide)).tr (agG.pI _ 3 12 _ (by decide))).tr (agG.pA _ 3 8 _ _ (by decide))
    have f12 : gI S3 3 12 = nI (min (cz + 1) 400) := by
      rw [eS3, mb_IA, gI_s, Nat.min_eq_left (by omega)]
    have f6 : ∀ j, gA S3 3 6 j = if j = cz then nI (32 * d + k) else gA S 3 6 j := by
      intro j
      rw [eS3, gA_n _ _ (fun z => by omega), mb_AI, mb_AA]
      by_cases e : j = cz
      · rw [if_pos ⟨rfl, rfl, e⟩, if_pos e]
      · rw [if_neg (fun z => e z.2.2), if_neg e]
    have f7 : gA S3 3 7 = gA S 3 7 := a3.a 3 7 (by decide)
    have f8 : ∀ j, gA S3 3 8 j = if j = sl then nI (cz + 1) else gA S 3 8 j := by
      intro j
      rw [eS3, mb_AA]
      by_cases e : j = sl
      · rw [if_pos ⟨rfl, rfl, e⟩, if_pos e]
      · rw [if_neg (fun z => e z.2.2), if_neg e, mb_AI, gA_n _ _ (fun z => by omega)]
    have f9 : gA S3 3 9 = gA S 3 9 := by
      funext j
      rw [eS3, gA_n _ _ (fun z => by omega), mb_AI, gA_n _ _ (fun z => by omega)]
    -- the end, for any state that differs in the reach alone
    have fin : ∀ S4, agG [(3, 12)] emA [] [] S S4 → gI S4 3 12 = nI (min (cz + 1) 400) → gA S4 3 6 = gA S3 3 6 → gA S4 3 8 = gA S3 3 8 → (∀ j, ¬ j = sl → gA S4 3 9 j = gA S 3 9 j) → (mf = 0 → ∀ r, r ≤ 6 → gA S 3 9 sl = nI r - 1 → ∃ r', r ≤ r' ∧ r' ≤ 6 ∧ gA S4 3 9 sl = nI r' - 1 ∧ (k = 2 → d < r')) → CW T ex so sl lo wl (stI (k, d) vl) mf (cz + 1) S4 := by
      intro S4 a4 g12 g6 g8 g9 gr
      have g7 : gA S4 3 7 = gA S 3 7 := a4.a 3 7 (by decide)
      refine ⟨q1, by rw [a4.i 1 10 (by decide)]; exact q2, by rw [a4.i 1 11 (by decide)]; exact q3, q4, q5, by rw [a4.a 1 1 (by decide)]; exact q6, g12, fun j hj hj8 => ?_, fun m hz => ?_⟩
      · have hn := q1.2.2.2.2 j hj hj8
        rw [g7, g8, f8, if_neg hn, g9 _ hn]
        exact q8 j hj hj8
      · obtain ⟨w1, w2⟩ := q9 m (by omega)
        refine ⟨w1.oth (cz' := cz + 1) q1 (by omega) (fun j hj => by rw [g6, f6, if_neg (by omega)]) (fun j _ => by rw [g7]) (fun j hj => by rw [g8, f8, if_neg hj]) g9, ?_⟩
        obtain ⟨b, is, r, t1, t2, t3, t4, t5, t6, t7, t8, t9, t10⟩ := w2
        obtain ⟨r', r1, r2, r3, r4⟩ := gr m r t8 t9
        obtain ⟨o1, o2, o3⟩ := hok m
        refine ⟨b, is ++ [(k, d)], r', by rw [g7]; exact t1, by rw [g8, f8, if_pos rfl], by rw [List.length_append]; show cz + 1 = b + (is.length + 1); omega, hz, fun i c hi => ?_, okI_snoc _ t6 (by rw [t7]; exact o1) (by rw [t7]; exact o2), by rw [rnS_snoc, t7], r2, r3, fun c hc => ?_⟩
        · rw [g6, f6]
          by_cases e : i < is.length
          · rw [List.getElem?_append_left e] at hi
            rw [if_neg (by omega)]
            exact t5 i c hi
          · have hlt := (List.getElem?_eq_some_iff.mp hi).1
            rw [List.length_append] at hlt
            have hlt : i < is.length + 1 := hlt
            have ei : i = is.length := by omega
            subst ei
            rw [List.getElem?_append_right (Nat.le_refl _), Nat.sub_self] at hi
            cases hi
            rw [if_pos (by omega)]
            rfl
        · rcases List.mem_append.mp hc with z | z
          · exact ⟨fun y => Nat.lt_of_lt_of_le ((t10 c z).1 y) r1, (t10 c z).2⟩
          · rw [List.mem_singleton] at z
            subst z
            exact ⟨r4, o3⟩
    have reach : ∀ (_ : mf = 0 → d < 6), ∃ S', Book_emit_j68 S3 (nI sl) (nI d) = some S' ∧ agG [(3, 12)] emA [] [] S S' ∧ CW T ex so sl lo wl (stI (k, d) vl) mf (cz + 1) S' := by
      intro hd6
      unfold Book_emit_j68 Book_emit_j85
      rw [mb_in hs (by decide), mb_gd, mb_cl (by omega), f9, mb_gd]
      by_cases z : nI d ≤ gA S 3 9 sl
      · rw [if_pos z]
        refine ⟨S3, rfl, a3, fin S3 a3 f12 rfl rfl (fun j _ => by rw [f9]) (fun m r hr h9 => ⟨r, Nat.le_refl r, hr, by rw [f9]; exact h9, fun _ => ?_⟩)⟩
        rw [h9] at z
        exact (re_le d (hd6 m) r hr).mp z
      · rw [if_neg z, mb_nm]
        have a4 : agG [(3, 12)] emA [] [] S (pA S3 3 9 sl (nI d)) := a3.tr (agG.pA S3 3 9 _ _ (by decide))
        refine ⟨_, rfl, a4, fin _ a4 f12 (by funext j; rw [gA_n _ _ (fun z => by omega)]) (by funext j; rw [gA_n _ _ (fun z => by omega)]) (fun j hj => by rw [gA_n _ _ (fun z => hj z.2.2), f9]) (fun m r hr h9 => ⟨d + 1, ?_, by have := hd6 m; omega, by rw [gA_s]; exact re_eq d (hd6 m), fun _ => Nat.lt_succ_self d⟩)⟩
        rw [h9] at z
        have := mt (re_le d (hd6 m) r hr).mpr z
        omega
    by_cases k2 : k = 2
    · rw [if_pos (by rw [k2]; rfl)]
      refine reach (fun m => ?_)
      rcases (hok m).1 with ⟨z, -⟩ | ⟨-, z, -⟩ | ⟨z, -⟩ | ⟨z, -⟩
      · have z : k = 3 := z; omega
      · have z : d < tNf T := z; omega
      · have z : k = 25 := z; omega
      · have z : isB2 k = true := z
        rw [k2] at z
        exact absurd z (by decide)
    · rw [if_neg (by rw [l2, mb_eq (by omega) (by omega)]; exact k2)]
      by_cases k26 : k = 26
      · rw [if_pos (by rw [k26]; rfl)]
        refine reach (fun m => ?_)
        rcases (hok m).1 with ⟨z, -⟩ | ⟨-, z, -⟩ | ⟨z, -⟩ | ⟨z, -⟩
        · have z : k = 3 := z; omega
        · have z : d < tNf T := z; omega
        · have z : k = 25 := z; omega
        · have z : isB2 k = true := z
          rw [k26] at z
          exact absurd z (by decide)
      · rw [if_neg (by rw [show (26 : Int32) = nI 26 from rfl, mb_eq (by omega) (by omega)]; exact k26)]
        unfold Book_emit_j85
        exact ⟨S3, rfl, a3, fin S3 a3 f12 rfl rfl (fun j _ => by rw [f9]) (fun m r hr h9 => ⟨r, Nat.le_refl r, hr, by rw [f9]; exact h9, fun z => absurd z k2⟩)⟩
  · rw [Nat.min_eq_right (by omega), if_neg (by rw [mb_lt (by omega) (by omega)]; omega)]
    exact ⟨S, rfl, agG.rf S, q1, q2, q3, q4, q5, q6, by rw [q7, Nat.min_eq_right (by omega), Nat.min_eq_right (by omega)], q8, fun _ z => by omega⟩
theorem okW_lt {wl : List Nat} (h : okW wl) {x : Nat} (hx : x ∈ wl) : x < 32 := by
  rcases h x hx with z | z | z
  · have := isB2_s z; omega
  · omega
  · omega
theorem ce_last (h : CW T ex so sl lo wl vl mf cz S) : f_Reader_lastWaiting S = some (nI (wl.headD 0)) := by
  obtain ⟨q1, q2, q3, q4, q5, q6, -⟩ := h
  unfold f_Reader_lastWaiting Reader_lastWaiting_j33 Reader_lastWaiting_j34
  rw [q3]
  cases wl with
  | nil => rw [if_pos (by decide)]; rfl
  | cons x r =>
    have q4 : r.length + 1 ≤ 40 := q4
    have h0 := q6 0 x rfl
    have h0 : gA S 1 1 (r.length + 1 - 1 - 0) = nI x := h0
    rw [show r.length + 1 - 1 - 0 = r.length by omega] at h0
    show (if nI (r.length + 1) ≤ 0 then _ else _) = _
    rw [if_neg (by rw [l0, mb_le (by omega) (by omega)]; omega), if_neg (by show ¬ nI 64 < nI (r.length + 1); rw [mb_lt (by omega) (by omega)]; omega)]
    show gd (inb (nI (r.length + 1) - 1) 64) _ = _
    rw [nI_pred, mb_in (by omega) (by decide), mb_gd]
    show some (gA S 1 1 (nI (r.length + 1) - 1).toNatClampNeg) = _
    rw [nI_pred, mb_cl (by omega), h0]
    rfl
theorem ce_pop {x : Nat} (h : CW T ex so sl lo (x :: wl) vl mf cz S) : CW T ex so sl lo wl vl mf cz (pI S 1 11 (gI S 1 11 - 1)) := by
  obtain ⟨q1, q2, q3, q4, q5, q6, q7, q8, q9⟩ := h
  have a : agG [(1, 11)] [] [] [] S (pI S 1 11 (gI S 1 11 - 1)) := agG.pI S 1 11 _ (by decide)
  have q4 : wl.length + 1 ≤ 40 := q4
  have q3 : gI S 1 11 = nI (wl.length + 1) := q3
  refine ⟨q1, by rw [a.i 1 10 (by decide)]; exact q2, by rw [gI_s, q3, nI_pred], by omega, fun y hy => q5 y (List.mem_cons_of_mem x hy), fun i y hi => ?_, by rw [a.i 3 12 (by decide)]; exact q7, q8, fun m c => ⟨(q9 m c).1.ag a (by decide), (q9 m c).2.ag a (by decide)⟩⟩
  have := q6 (i + 1) y hi
  have this : gA S 1 1 (wl.length + 1 - 1 - (i + 1)) = nI y := this
  rw [show wl.length + 1 - 1 - (i + 1) = wl.length - 1 - i by omega] at this
  exact this
theorem ce_await {x : Nat} (h : CW T ex so sl lo wl vl mf cz S) (hx : isB2 x = true ∨ x = 25 ∨ x = 12) (hl : wl.length < 40) : ∃ S', f_Reader_await S (nI x) = some S' ∧ agG [(1, 11)] [(1, 1)] [] [] S S' ∧ CW T ex so sl lo (x :: wl) vl mf cz S' := by
  obtain ⟨q1, q2, q3, q4, q5, q6, q7, q8, q9⟩ := h
  unfold f_Reader_await Reader_await_j39
  rw [q3, if_neg (nI_pos (by omega)), if_neg (by rw [mb_le (by omega) (by omega)]; omega), mb_in (by omega) (by decide), mb_gd, mb_nm, mb_cl (by omega), mb_IA, q3, nI_1, mb_nm]
  have a : agG [(1, 11)] [(1, 1)] [] [] S (pI (pA S 1 1 wl.length (nI x)) 1 11 (nI (wl.length + 1))) := (agG.pA S 1 1 _ _ (by decide)).tr (agG.pI _ 1 11 _ (by decide))
  refine ⟨_, rfl, a, q1, by rw [a.i 1 10 (by decide)]; exact q2, gI_s _ _ _ _, hl, fun y hy => ?_, fun i y hi => ?_, by rw [a.i 3 12 (by decide)]; exact q7, ?_, fun m c => ⟨(q9 m c).1.ag a (by decide), (q9 m c).2.ag a (by decide)⟩⟩
  · rcases List.mem_cons.mp hy with e | e
    · rw [e]; exact hx
    · exact q5 y e
  · rw [mb_AI]
    show gA (pA S 1 1 wl.length (nI x)) 1 1 (wl.length + 1 - 1 - i) = nI y
    cases i with
    | zero =>
      have hi : some x = some y := hi
      cases hi
      rw [show wl.length + 1 - 1 - 0 = wl.length by omega, gA_s]
    | succ i =>
      have hi : wl[i]? = some y := hi
      have hlt := (List.getElem?_eq_some_iff.mp hi).1
      rw [gA_n _ _ (fun z => by omega), show wl.length + 1 - 1 - (i + 1) = wl.length - 1 - i by omega]
      exact q6 i y hi
  · unfold CLR
    rw [a.a 3 7 (by decide), a.a 3 8 (by decide), a.a 3 9 (by decide)]
    exact q8
theorem stI_len {x : Nat} (hx : isB2 x = true ∨ x = 25 ∨ x = 12) (ht : 0 < tg x) {r : List Nat} {vl : List Sem} (h : vl.length = nbW (x :: r) + 1) : (stI (x, 0) vl).length = nbW r + 1 ∧ ok1 0 (x, 0) vl.length := by
  rcases hx with z | z | z
  · have h : vl.length = nbW r + cond (isB2 x) 1 0 + 1 := h
    rw [z] at h
    have h : vl.length = nbW r + 1 + 1 := h
    match vl, h with
    | g :: f :: q, h =>
      rw [st_bin z]
      have h : q.length + 1 + 1 = nbW r + 1 + 1 := h
      exact ⟨by show q.length + 1 = nbW r + 1; omega, Or.inr (Or.inr (Or.inr ⟨z, rfl, by show 2 ≤ q.length + 1 + 1; omega⟩))⟩
  · subst z
    have h : vl.length = nbW r + 0 + 1 := h
    match vl, h with
    | f :: q, h =>
      have h : q.length + 1 = nbW r + 0 + 1 := h
      exact ⟨by show q.length + 1 = nbW r + 1; omega, Or.inr (Or.inr (Or.inl ⟨rfl, rfl, by show 1 ≤ q.length + 1; omega⟩))⟩
  · subst z
    exact absurd ht (by decide)
def rlA : List (Nat × Nat) := [(3, 6), (3, 8), (3, 9)]
def rlI : List (Nat × Nat) := [(3, 12), (1, 11)]
theorem rel_len (t : Nat) (ht : 0 < t) : ∀ (wl : List Nat) (vl : List Sem), okW wl → vl.length = nbW wl + 1 → (rel t wl vl).2.length = nbW (rel t wl vl).1 + 1 ∧ (rel t wl vl).1.length ≤ wl.length ∧ ∃ u, wl = u ++ (rel t wl vl).1
  | [], vl, _, h => ⟨h, Nat.le_refl _, [], rfl⟩
  | x :: r, vl, hw, h => by
    have e : rel t (x :: r) vl = if tg x < t then (x :: r, vl) else rel t r (stI (x, 0) vl) := rfl
    rw [e]
    by_cases c : tg x < t
    · rw [if_pos c]
      exact ⟨h, Nat.le_refl _, [], rfl⟩
    · rw [if_neg c]
      obtain ⟨l1, -⟩ := stI_len (hw x List.mem_cons_self) (by omega) h
      obtain ⟨i1, i2, u, i3⟩ := rel_len t ht r (stI (x, 0) vl) (fun y hy => hw y (List.mem_cons_of_mem x hy)) l1
      refine ⟨i1, by show _ ≤ r.length + 1; omega, x :: u, ?_⟩
      show x :: r = x :: (u ++ _)
      rw [← i3]
theorem ce_rel (hn6 : tNf T ≤ 6) {t : Nat} (ht : 0 < t) (ht2 : t < 10) : ∀ (wl : List Nat) {vl : List Sem} {cz : Nat} {S : St}, CW T ex so sl lo wl vl mf cz S → vl.length = nbW wl + 1 → ∃ S', wh (un2 (Reader_release_l5 (nI t))) (S, nI wl.length) = some S' ∧ agG rlI rlA [] [] S S' ∧ CW T ex so sl lo (rel t wl vl).1 (rel t wl vl).2 mf (cz + (wl.length - (rel t wl vl).1.length)) S'
  | [], vl, cz, S, h, hl => by
    refine ⟨S, wh_inr ?_, agG.rf S, h⟩
    show Reader_release_l5 (nI t) S (nI 0) = _
    unfold Reader_release_l5
    rw [if_pos (by decide)]
  | x :: r, vl, cz, S, h, hl => by
    have hw := h.2.2.2.2.1
    have h40 : r.length + 1 ≤ 40 := h.2.2.2.1
    have hx := hw x List.mem_cons_self
    have hx32 := okW_lt hw (List.mem_cons_self (a := x) (l := r))
    have hlast := ce_last h
    have hlast : f_Reader_lastWaiting S = some (nI x) := hlast
    have htg : tg x < 10 := by
      have : ∀ x, x < 32 → tg x < 10 := by decide
      exact this x hx32
    have e : rel t (x :: r) vl = if tg x < t then (x :: r, vl) else rel t r (stI (x, 0) vl) := rfl
    rw [e]
    by_cases c : tg x < t
    · rw [if_pos c]
      refine ⟨S, wh_inr ?_, agG.rf S, ?_⟩
      · show Reader_release_l5 (nI t) S (nI (r.length + 1)) = _
        unfold Reader_release_l5
        rw [if_neg (by rw [l0, mb_le (by omega) (by omega)]; omega), hlast, mb_bd, tg_c x hx32, mb_bd, if_pos (by rw [mb_lt (by omega) (by omega)]; exact c)]
      · rw [Nat.sub_self]
        exact h
    · rw [if_neg c]
      obtain ⟨l1, l2⟩ := stI_len hx (by omega) hl
      have hvl : vl.length ≤ 61 := by
        have := nbW_le (x :: r)
        have this : nbW (x :: r) ≤ r.length + 1 := this
        omega
      obtain ⟨S1, g1, a1, c1⟩ := ce_emit (k := x) (d := 0) h hx32 (by decide) hn6 (fun _ => ⟨ok1_mono (Nat.zero_le _) l2, hvl, fun z => by
        subst z
        rcases hx with y | y | y
        · exact absurd y (by decide)
        · cases y
        · cases y⟩)
      have c2 := ce_pop c1
      have a2 : agG rlI rlA [] [] S (pI S1 1 11 (gI S1 1 11 - 1)) := (a1.wk (by decide) (by decide) (by decide) (by decide)).tr (agG.pI S1 1 11 _ (by decide))
      obtain ⟨S3, g3, a3, c3⟩ := ce_rel hn6 ht ht2 r c2 l1
      obtain ⟨i1, i2, u, i3⟩ := rel_len t ht r (stI (x, 0) vl) (fun y hy => hw y (List.mem_cons_of_mem x hy)) l1
      refine ⟨S3, ?_, a2.tr a3, ?_⟩
      · rw [← g3]
        refine wh_inl ?_
        show Reader_release_l5 (nI t) S (nI (r.length + 1)) = _
        unfold Reader_release_l5
        have g1 : f_Book_emit S (gI S 1 10) (nI x) 0 = some S1 := by rw [h.2.1]; exact g1
        rw [if_neg (by rw [l0, mb_le (by omega) (by omega)]; omega), hlast, mb_bd, tg_c x hx32, mb_bd, if_neg (by rw [mb_lt (by omega) (by omega)]; exact c), mb_bd, g1, mb_bd, mb_nm, mb_nm, mb_m1]
      · have e2 : cz + ((x :: r).length - (rel t r (stI (x, 0) vl)).1.length) = cz + 1 + (r.length - (rel t r (stI (x, 0) vl)).1.length) := by
          show cz + (r.length + 1 - _) = _
          omega
        rw [e2]
        exact c3
theorem ce_release (hn6 : tNf T ≤ 6) {t : Nat} (ht : 0 < t) (ht2 : t < 10) (h : CW T ex so sl lo wl vl mf cz S) (hl : vl.length = nbW wl + 1) : ∃ S', f_Reader_release S (nI t) = some S' ∧ agG rlI rlA [] [] S S' ∧ CW T ex so sl lo (rel t wl vl).1 (rel t wl vl).2 mf (cz + (wl.length - (rel t wl vl).1.length)) S' := by
  obtain ⟨S', g1, a1, c1⟩ := ce_rel hn6 ht ht2 wl h hl
  refine ⟨S', ?_, a1, c1⟩
  unfold f_Reader_release Reader_release_j52
  rw [mb_nm, h.2.2.1, g1, mb_bd]
