theorem arr_int {args : Array Value} {s : State} (h : (Cond.arrayClass .int).before args s = true) : ∃ cA : ClassId, ArrOfT s cA .int ∧ va_RA s cA .int := by
  obtain ⟨cA, kA, comp, h1, h2, h3⟩ := Cond.arrayClass_spec h
  exact ⟨cA, fun n z => ⟨fun k h => (by cases h), kA, h2, comp, h3⟩, h1⟩
theorem arr_long {args : Array Value} {s : State} (h : (Cond.arrayClass .long).before args s = true) : ∃ cA : ClassId, ArrOfT s cA .long ∧ va_RA s cA .long := by
  obtain ⟨cA, kA, comp, h1, h2, h3⟩ := Cond.arrayClass_spec h
  exact ⟨cA, fun n z => ⟨fun k h => (by cases h), kA, h2, comp, h3⟩, h1⟩
theorem arr_byte {args : Array Value} {s : State} (h : (Cond.arrayClass .byte).before args s = true) : ∃ cA : ClassId, ArrOfT s cA .byte ∧ va_RA s cA .byte := by
  obtain ⟨cA, kA, comp, h1, h2, h3⟩ := Cond.arrayClass_spec h
  exact ⟨cA, fun n z => ⟨fun k h => (by cases h), kA, h2, comp, h3⟩, h1⟩
theorem arr_bool {args : Array Value} {s : State} (h : (Cond.arrayClass .boolean).before args s = true) : ∃ cA : ClassId, ArrOfT s cA .boolean ∧ va_RA s cA .boolean := by
  obtain ⟨cA, kA, comp, h1, h2, h3⟩ := Cond.arrayClass_spec h
  exact ⟨cA, fun n z => ⟨fun k h => (by cases h), kA, h2, comp, h3⟩, h1⟩
set_option maxRecDepth 20000 in
theorem ww_start {args : Array Value} {s : State} (hgv : (Jvm.Cond.and given_1 narrow_1).before args s = true) (hts : ∀ w ∈ lw_tbl, w.before args s = true) : WW (fun q : Nat => s.heap.size ≤ q) s s.heap := by
  have hs := flat_of_before _ hgv
  have hA : ∀ a : Nat, a < s.heap.size → ¬ (fun q : Nat => s.heap.size ≤ q) a := fun a h => Nat.not_le.mpr h
  have hel : ∀ j : Nat, j < 13 → (Term.elem (Term.static "LawfulLots" "WORDS" "[J") (.int (Int32.ofNat j))).eval args s none [] s = some ((fun j => Value.long (wdF j)) j) := by
    intro j hj
    rcases (show j = 0 ∨ j = 1 ∨ j = 2 ∨ j = 3 ∨ j = 4 ∨ j = 5 ∨ j = 6 ∨ j = 7 ∨ j = 8 ∨ j = 9 ∨ j = 10 ∨ j = 11 ∨ j = 12 by omega) with rfl | rfl | rfl | rfl | rfl | rfl | rfl | rfl | rfl | rfl | rfl | rfl | rfl
    · exact va_eqtl (z := 439854918756) (hs (.eq (.elem (Term.static "LawfulLots" "WORDS" "[J") (.int 0)) (.long 439854918756)) (by decide +kernel))
    · exact va_eqtl (z := 1718775661) (hs (.eq (.elem (Term.static "LawfulLots" "WORDS" "[J") (.int 1)) (.long 1718775661)) (by decide +kernel))
    · exact va_eqtl (z := 29807) (hs (.eq (.elem (Term.static "LawfulLots" "WORDS" "[J") (.int 2)) (.long 29807)) (by decide +kernel))
    · exact va_eqtl (z := 7102839) (hs (.eq (.elem (Term.static "LawfulLots" "WORDS" "[J") (.int 3)) (.long 7102839)) (by decide +kernel))
    · exact va_eqtl (z := 1936680564) (hs (.eq (.elem (Term.static "LawfulLots" "WORDS" "[J") (.int 4)) (.long 1936680564)) (by decide +kernel))
    · exact va_eqtl (z := 6449518) (hs (.eq (.elem (Term.static "LawfulLots" "WORDS" "[J") (.int 5)) (.long 6449518)) (by decide +kernel))
    · exact va_eqtl (z := 1852143732) (hs (.eq (.elem (Term.static "LawfulLots" "WORDS" "[J") (.int 6)) (.long 1852143732)) (by decide +kernel))
    · exact va_eqtl (z := 495672455781) (hs (.eq (.elem (Term.static "LawfulLots" "WORDS" "[J") (.int 7)) (.long 495672455781)) (by decide +kernel))
    · exact va_eqtl (z := 26982) (hs (.eq (.elem (Term.static "LawfulLots" "WORDS" "[J") (.int 8)) (.long 26982)) (by decide +kernel))
    · exact va_eqtl (z := 28530) (hs (.eq (.elem (Term.static "LawfulLots" "WORDS" "[J") (.int 9)) (.long 28530)) (by decide +kernel))
    · exact va_eqtl (z := 6385252) (hs (.eq (.elem (Term.static "LawfulLots" "WORDS" "[J") (.int 10)) (.long 6385252)) (by decide +kernel))
    · exact va_eqtl (z := 7237492) (hs (.eq (.elem (Term.static "LawfulLots" "WORDS" "[J") (.int 11)) (.long 7237492)) (by decide +kernel))
    · exact va_eqtl (z := 7302244) (hs (.eq (.elem (Term.static "LawfulLots" "WORDS" "[J") (.int 12)) (.long 7302244)) (by decide +kernel))
  obtain ⟨t, ht, hT⟩ := va_Tof (tm := (Term.static "LawfulLots" "WORDS" "[J")) (N := 13) (f := fun j => .long (wdF j)) (by decide) (hs (.arrayOf (Term.static "LawfulLots" "WORDS" "[J") .long) (by decide +kernel)) (va_eqt (hs (.eq (.length (Term.static "LawfulLots" "WORDS" "[J")) (.int 13)) (by decide +kernel))) hel hA
  exact ⟨t, va_Zof (hts (.laysStatic "LawfulLots" "WORDS" "[J") (by decide +kernel)) (hts (.initialized "LawfulLots") (by decide +kernel)) ht hA, hT⟩
theorem nw_on : ∀ w ∈ nw, w.onTables = true := by decide +kernel
set_option maxHeartbeats 8000000 in
set_option maxRecDepth 100000 in
theorem start_open {p : Program} {e : Env} {s : State} {m : MethodId} {below : List Frame} {meth : Method} {c : Code} (l : Launch) {b L : Nat} {xs : Nat → Int32} {Rel : St → St → Prop} {Φ : St → Nat} (hok : ok_all Rel Φ) (hL : L ≤ 3072) (C0 : lw_At p s m meth c b L xs) : W p l e room_1 s m #[Value.ref b] below meth c s.heap [] 0 0 (lw_Z below #[Value.ref b] s) (entryFrame m ([Value.ref b] : List Value).toArray 4) := by
  obtain ⟨hx, hb, hr, hml, hown, hts, hX, hbl, hlocks, hgv⟩ := id C0
  have F : CallFix p m c code 4 s #[Value.ref b] gt "LawfulLotsLaw" := ⟨hx, hb, hml, hown, fun w hw => hts w (List.mem_filter.mp hw).1⟩
  have hA : ∀ q : Nat, s.heap.size ≤ q → (fun q : Nat => s.heap.size ≤ q) q := fun _ h => h
  obtain ⟨c0, i0, k0⟩ := u_known (C := R_Lots) (T := T_Lots) (N := 8) (n := 8) hts iw_Lots (hts (.instantiable R_Lots 8) (by decide +kernel))
  obtain ⟨c1, i1, k1⟩ := u_known (C := R_Reader) (T := T_Reader) (N := 17) (n := 17) hts iw_Reader (hts (.instantiable R_Reader 17) (by decide +kernel))
  obtain ⟨c2, i2, k2⟩ := u_known (C := R_Scanner) (T := T_Scanner) (N := 7) (n := 7) hts iw_Scanner (hts (.instantiable R_Scanner 7) (by decide +kernel))
  obtain ⟨c3, i3, k3⟩ := u_known (C := R_Book) (T := T_Book) (N := 13) (n := 13) hts iw_Book (hts (.instantiable R_Book 13) (by decide +kernel))
  obtain ⟨c4, i4, k4⟩ := u_known (C := R_Chart) (T := T_Chart) (N := 18) (n := 18) hts iw_Chart (hts (.instantiable R_Chart 18) (by decide +kernel))
  obtain ⟨c5, i5, k5⟩ := u_known (C := R_Machine) (T := T_Machine) (N := 1) (n := 1) hts iw_Machine (hts (.instantiable R_Machine 1) (by decide +kernel))
  obtain ⟨c6, i6, k6⟩ := u_known (C := R_Log) (T := T_Log) (N := 2) (n := 2) hts iw_Log (hts (.instantiable R_Log 2) (by decide +kernel))
  obtain ⟨c7, i7, k7⟩ := u_known (C := R_Bins) (T := T_Bins) (N := 11) (n := 11) hts iw_Bins (hts (.instantiable R_Bins 11) (by decide +kernel))
  obtain ⟨c8, i8, k8⟩ := u_known (C := R_Chains) (T := T_Chains) (N := 7) (n := 7) hts iw_Chains (hts (.instantiable R_Chains 7) (by decide +kernel))
  obtain ⟨c9, i9, k9⟩ := u_known (C := R_Model) (T := T_Model) (N := 67) (n := 67) hts iw_Model (hts (.instantiable R_Model 67) (by decide +kernel))
  obtain ⟨D, hKc⟩ : ∃ D : va_G, ∀ (k : Nat) (q : vw_C), classes[k]? = some q → u_Kn s q.1 q.2.1 q.2.2 (D.1 k) (D.2 k) := by
    refine ⟨(fun k => if k = 0 then c0 else (if k = 1 then c1 else (if k = 2 then c2 else (if k = 3 then c3 else (if k = 4 then c4 else (if k = 5 then c5 else (if k = 6 then c6 else (if k = 7 then c7 else (if k = 8 then c8 else (c9))))))))), fun k => if k = 0 then i0 else (if k = 1 then i1 else (if k = 2 then i2 else (if k = 3 then i3 else (if k = 4 then i4 else (if k = 5 then i5 else (if k = 6 then i6 else (if k = 7 then i7 else (if k = 8 then i8 else (i9)))))))))), ?_⟩
    intro k q hq
    match k, hq with
    | 0, hq => cases hq; exact k0
    | 1, hq => cases hq; exact k1
    | 2, hq => cases hq; exact k2
    | 3, hq => cases hq; exact k3
    | 4, hq => cases hq; exact k4
    | 5, hq => cases hq; exact k5
    | 6, hq => cases hq; exact k6
    | 7, hq => cases hq; exact k7
    | 8, hq => cases hq; exact k8
    | 9, hq => cases hq; exact k9
    | k + 10, hq => simp [classes] at hq
  obtain ⟨a_int, h1_int, h2_int⟩ := arr_int (F.2.2.2.2 _ lk_117)
  obtain ⟨a_long, h1_long, h2_long⟩ := arr_long (F.2.2.2.2 _ lk_118)
  obtain ⟨a_byte, h1_byte, h2_byte⟩ := arr_byte (F.2.2.2.2 _ lk_60)
  obtain ⟨a_bool, h1_bool, h2_bool⟩ := arr_bool (F.2.2.2.2 _ lk_1213)
  obtain ⟨ar, ea⟩ : ∃ ar : Nat → ClassId, ar = fun k => if k = 0 then a_int else if k = 1 then a_long else if k = 2 then a_byte else a_bool := ⟨_, rfl⟩
  have hK : KK D ar (fun q : Nat => s.heap.size ≤ q) s := by
    refine ⟨⟨hKc, ?_⟩, fun w hw => va_Nw.of (nw_on w hw) (hts w (nw_tbl w hw)), ww_start hgv hts⟩
    rw [ea]
    intro k q hq
    match k, hq with
    | 0, hq => cases hq; exact ⟨h1_int, h2_int⟩
    | 1, hq => cases hq; exact ⟨h1_long, h2_long⟩
    | 2, hq => cases hq; exact ⟨h1_byte, h2_byte⟩
    | 3, hq => cases hq; exact ⟨h1_bool, h2_bool⟩
    | k + 4, hq => simp at hq
  have hS : va_S (fun q : Nat => s.heap.size ≤ q) s.heap s.heap [] := va_S.rf
  have hP : va_P D classes [] s.heap := fun k q h => by simp at h
  have hD : va_D (fun q : Nat => s.heap.size ≤ q) [] := ⟨fun i j p q h => by simp at h, fun k q h => by simp at h⟩
  have hl := lv_entry ([.ref b]) (n := 4) (Nat.le_of_ble_eq_true rfl)
  rw [lg_entry_eq]
  generalize (lg_sl ([.ref b]) ++ List.replicate (4 - (lg_sl ([.ref b])).length) Slot.unset).toArray = ls at hl ⊢
  have hl : lv_has ls 4 [(0, .ref b)] := hl
  obtain ⟨M0, hM0, hR0⟩ := hok.2.1
  have hb0 := hok.1 _ _ hR0
  refine mk_obj (C := R_Lots) (T := T_Lots) (N := 8) (ci := 0) (o := 0) F hA hK hP hD hS ty_Lots ig_Lots tk_Lots lk_14 lk_15 lk_1 rfl (fs := [.null, .null, .null, .null, .null, .null, .int 0, .int 0]) (by decide +kernel) (ct_Lots_0 l) lk_18 rfl (Or.inl lk_16) lk_17 rfl (by decide +kernel) ⟨Nat.le_of_ble_eq_true rfl, Nat.le_of_ble_eq_true rfl⟩ hl.1 (Nat.le_of_ble_eq_true rfl) d_Law_law_0 d_Law_law_3 d_Law_law_4 (by show _ ≤ 600000; omega) (by show _ ≤ 7302250; omega) (fun ad H locs hP hD hS => ?_)
  refine lv_astore_n (lv' := [(1, .ref (ad 0 0)), (0, .ref b)]) F.1 F.2.1 d_Law_law_7 rfl hl (by decide) rfl (fun ls hl => ?_)
  refine mk_obj (C := R_Model) (T := T_Model) (N := 67) (ci := 9) (o := 0) F hA hK hP hD hS ty_Model ig_Model tk_Model lk_943 lk_944 lk_10 rfl (fs := [.int 0, .null, .int 0, .null, .int 0, .null, .null, .null, .null, .null, .int 0, .int 0, .int 0, .int 0, .int 0, .int 0, .int 0, .int 0, .int 0, .int 0, .null, .null, .null, .null, .long 0, .null, .null, .null, .null, .null, .null, .null, .null, .null, .null, .null, .null, .null, .int 0, .null, .null, .int 0, .null, .int 0, .int 0, .null, .null, .null, .null, .null, .null, .null, .int 0, .int 0, .int 0, .null, .null, .int 0, .int 0, .null, .null, .null, .int 0, .null, .null, .null, .null]) (by decide +kernel) (ct_Model_0 l hM0) lk_947 rfl (Or.inl lk_945) lk_946 rfl (by decide +kernel) ⟨Nat.le_of_ble_eq_true rfl, Nat.le_of_ble_eq_true rfl⟩ hl.1 (Nat.le_of_ble_eq_true rfl) d_Law_law_8 d_Law_law_11 d_Law_law_12 (by show _ ≤ 600000; omega) (by show _ ≤ 7302250; omega) (fun am H locs hP hD hS => ?_)
  refine lv_astore_n (lv' := [(2, .ref (am 0 0)), (1, .ref (ad 0 0)), (0, .ref b)]) F.1 F.2.1 d_Law_law_15 rfl hl (by decide) rfl (fun ls hl => ?_)
  refine lv_iconst (v := 0) F.1 F.2.1 d_Law_law_16 (by decide) ?_
  refine lv_istore_n (lv' := [(3, .int 0), (2, .ref (am 0 0)), (1, .ref (ad 0 0)), (0, .ref b)]) F.1 F.2.1 d_Law_law_17 rfl hl (by decide) rfl (fun ls hl => ?_)
  refine W.widen (k := 98 + 3 * 0) (n := 187205 + Φ cS0) (by omega) (by omega) ?_
  have hw : B2 cw mw D ar (fun q : Nat => s.heap.size ≤ q) s.heap H locs ad cS0 am M0 := B2.comm ⟨hP, hD, hS⟩
  exact law_loop hL F hr hlocks hX hbl hK hok (L + 1) 0 cS0 M0 (by omega) (by omega) hR0 ad am H locs hw ls (lv_sub hl [3, 2, 1, 0] rfl)
