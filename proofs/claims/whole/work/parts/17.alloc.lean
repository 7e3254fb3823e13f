/-- the arrays that grow (marks, shares, order of the chart) may lie elsewhere -/
def adM (q : Nat → Nat) (ad : Nat → Nat → Nat) : Nat → Nat → Nat := fun o k => cond (Nat.beq o 4 && (Nat.beq k 6 || Nat.beq k 7 || Nat.beq k 8)) (q k) (ad o k)
def adU (ad : Nat → Nat → Nat) (o k q : Nat) : Nat → Nat → Nat := fun a b => cond (Nat.beq a o && Nat.beq b k) q (ad a b)
def aM (a b : Nat → Nat → Nat) : Prop := ∃ q : Nat → Nat, b = adM q a
theorem aM_rf (ad : Nat → Nat → Nat) : aM ad ad := ⟨fun k => ad 4 k, by
  funext o k
  unfold adM
  by_cases h : o = 4
  · subst h
    cases (Nat.beq 4 4 && (Nat.beq k 6 || Nat.beq k 7 || Nat.beq k 8)) <;> rfl
  · have : Nat.beq o 4 = false := by
      cases hb : Nat.beq o 4 with
      | false => rfl
      | true => exact absurd (Nat.eq_of_beq_eq_true hb) h
    rw [this]
    rfl⟩
theorem adM_adM (q q1 : Nat → Nat) (ad : Nat → Nat → Nat) : adM q (adM q1 ad) = adM q ad := by
  funext o k
  unfold adM
  cases (Nat.beq o 4 && (Nat.beq k 6 || Nat.beq k 7 || Nat.beq k 8)) <;> rfl
theorem aM_U {a b : Nat → Nat → Nat} (h : aM a b) (k q : Nat) (hk : (Nat.beq k 6 || Nat.beq k 7 || Nat.beq k 8) = true) : aM a (adU b 4 k q) := by
  obtain ⟨r, rfl⟩ := h
  refine ⟨fun j => cond (Nat.beq j k) q (r j), ?_⟩
  funext o j
  unfold adU adM
  cases ho : Nat.beq o 4 with
  | false => rfl
  | true =>
    by_cases hj : Nat.beq j k = true
    · have e : j = k := Nat.eq_of_beq_eq_true hj
      subst e
      simp only [hj, hk, Bool.and_self, Bool.true_and, cond_true]
    · have hj' : Nat.beq j k = false := by
        cases hb : Nat.beq j k with
        | false => rfl
        | true => exact absurd hb hj
      simp only [hj', Bool.and_false, Bool.true_and, cond_false]
def okn (n : Int32) : Bool := decide (¬ n < 0 ∧ n.toNatClampNeg * 4 ≤ 536870912)
abbrev RMA (f l c s : Nat) : Room := { frames := f, cells := c, slots := s, locals := l }
section RCM
variable {p : Program} {l : Launch} {e : Env} {R : Room} {s : State} {m : MethodId} {args : Array Value} {below : List Frame} {meth : Method} {c : Code} {H H0 : Heap} {locs : List Loc} {cells slots : Nat} {Q : State → Prop} {cc bc : ByteArray} {nL mL pc idx n b fr lo mc ms : Nat} {ls : Array Slot} {rest As st : List Value} {own C : String} {y : MethodName} {rt : Option FieldType} {f : WF} {D : va_G} {ar : Nat → ClassId} {A : Nat → Prop} {ad : Nat → Nat → Nat} {S S' S1 : St} {av : (Nat → Nat → Nat) → List Value} {P : (Nat → Nat → Nat) → Prop} {v : Int32}
theorem cVm_i {r : Int32} (F : CallFix p m c cc nL s args gt own) (hA : ∀ q, H0.size ≤ q → A q) (e0 : H0 = s.heap) (hK : KK D ar A s) (hw : Bw f D ar A H0 H locs ad S) (hM : MI f l y bc mL rt fr lo mc ms av P aM S r S') (hP : P ad) (hav : av ad = .ref b :: As) (hg : GoodIn gt (wsV own idx C y (.code y bc mL rt :: gt))) (hrec : ∃ cell : Cell, H[b]? = some cell ∧ cell.vm.isStatics = false ∧ s.vm.findClass C = some cell.cls) (hd : y.cls = C ∧ y.cls ≠ "java/lang/invoke/MethodHandle" ∧ y.cls ≠ "java/lang/invoke/VarHandle" ∧ (parseMethodDescriptor y.desc).map (fun d => d.parameters.length) = some n) (hR : fr + 1 ≤ R.frames ∧ 8 + (mL + 11) + lo ≤ R.locals) (hn : As.length = n) (hsz : ls.size = nL) (hst : st = As.reverse ++ .ref b :: rest) (hrm : (rest.map fun v => v.category).sum ≤ 8) (hdg : decode cc pc = .ok (.invokevirtual idx, 3)) (hf : cells + mc ≤ R.cells ∧ slots + ms ≤ R.slots)
    (kk : ∀ (q : Nat → Nat) (H1 : Heap) (locs1 : List Loc), Bw f D ar A H0 H1 locs1 (adM q ad) S' → W p l e R s m args below meth c H1 locs1 (cells + mc) (slots + ms) Q (F0 m (pc + 3) ls (.int r :: rest))) : W p l e R s m args below meth c H locs cells slots Q (F0 m pc ls st) :=
  got_i hA hw (run_V F hA e0 hK hw (hM D ar ad H.size hP) hav hg hrec hd hR hn hsz hst hrm hdg hf) (fun H1 locs1 ad' hT hw => by obtain ⟨q, rfl⟩ := hT; exact kk q H1 locs1 hw)
theorem cVm_l {r : Int64} (F : CallFix p m c cc nL s args gt own) (hA : ∀ q, H0.size ≤ q → A q) (e0 : H0 = s.heap) (hK : KK D ar A s) (hw : Bw f D ar A H0 H locs ad S) (hM : ML f l y bc mL rt fr lo mc ms av P aM S r S') (hP : P ad) (hav : av ad = .ref b :: As) (hg : GoodIn gt (wsV own idx C y (.code y bc mL rt :: gt))) (hrec : ∃ cell : Cell, H[b]? = some cell ∧ cell.vm.isStatics = false ∧ s.vm.findClass C = some cell.cls) (hd : y.cls = C ∧ y.cls ≠ "java/lang/invoke/MethodHandle" ∧ y.cls ≠ "java/lang/invoke/VarHandle" ∧ (parseMethodDescriptor y.desc).map (fun d => d.parameters.length) = some n) (hR : fr + 1 ≤ R.frames ∧ 8 + (mL + 11) + lo ≤ R.locals) (hn : As.length = n) (hsz : ls.size = nL) (hst : st = As.reverse ++ .ref b :: rest) (hrm : (rest.map fun v => v.category).sum ≤ 8) (hdg : decode cc pc = .ok (.invokevirtual idx, 3)) (hf : cells + mc ≤ R.cells ∧ slots + ms ≤ R.slots)
    (kk : ∀ (q : Nat → Nat) (H1 : Heap) (locs1 : List Loc), Bw f D ar A H0 H1 locs1 (adM q ad) S' → W p l e R s m args below meth c H1 locs1 (cells + mc) (slots + ms) Q (F0 m (pc + 3) ls (.long r :: rest))) : W p l e R s m args below meth c H locs cells slots Q (F0 m pc ls st) :=
  got_l hA hw (run_V F hA e0 hK hw (hM D ar ad H.size hP) hav hg hrec hd hR hn hsz hst hrm hdg hf) (fun H1 locs1 ad' hT hw => by obtain ⟨q, rfl⟩ := hT; exact kk q H1 locs1 hw)
theorem cVm_v (F : CallFix p m c cc nL s args gt own) (hA : ∀ q, H0.size ≤ q → A q) (e0 : H0 = s.heap) (hK : KK D ar A s) (hw : Bw f D ar A H0 H locs ad S) (hM : MV f l y bc mL rt fr lo mc ms av P aM S S') (hP : P ad) (hav : av ad = .ref b :: As) (hg : GoodIn gt (wsV own idx C y (.code y bc mL rt :: gt))) (hrec : ∃ cell : Cell, H[b]? = some cell ∧ cell.vm.isStatics = false ∧ s.vm.findClass C = some cell.cls) (hd : y.cls = C ∧ y.cls ≠ "java/lang/invoke/MethodHandle" ∧ y.cls ≠ "java/lang/invoke/VarHandle" ∧ (parseMethodDescriptor y.desc).map (fun d => d.parameters.length) = some n) (hR : fr + 1 ≤ R.frames ∧ 8 + (mL + 11) + lo ≤ R.locals) (hn : As.length = n) (hsz : ls.size = nL) (hst : st = As.reverse ++ .ref b :: rest) (hrm : (rest.map fun v => v.category).sum ≤ 8) (hdg : decode cc pc = .ok (.invokevirtual idx, 3)) (hf : cells + mc ≤ R.cells ∧ slots + ms ≤ R.slots)
    (kk : ∀ (q : Nat → Nat) (H1 : Heap) (locs1 : List Loc), Bw f D ar A H0 H1 locs1 (adM q ad) S' → W p l e R s m args below meth c H1 locs1 (cells + mc) (slots + ms) Q (F0 m (pc + 3) ls (rest))) : W p l e R s m args below meth c H locs cells slots Q (F0 m pc ls st) :=
  got_v hA hw (run_V F hA e0 hK hw (hM D ar ad H.size hP) hav hg hrec hd hR hn hsz hst hrm hdg hf) (fun H1 locs1 ad' hT hw => by obtain ⟨q, rfl⟩ := hT; exact kk q H1 locs1 hw)
set_option maxHeartbeats 2000000 in
theorem new_4_5 (F : CallFix p m c cc nL s args gt own) (hA : ∀ q, H0.size ≤ q → A q) (hK : KK D ar A s) (hw : Bw cw D ar A H0 H locs ad S) (hl : Cond.fieldLink own idx "LawfulLots$Chart" "marks" "[I" ∈ gt) (hd1 : decode cc pc = .ok (.newarray .int, 2)) (hd2 : decode cc (pc + 2) = .ok (.putfield idx, 3)) (hn : okn v = true) (hc : cells + 1 ≤ R.cells) (hs : slots + v.toNatClampNeg ≤ R.slots) (e1 : S1 = pZ S 4 5 v.toNatClampNeg)
    (kk : ∀ (q : Nat) (H1 : Heap) (locs1 : List Loc), Bw cw D ar A H0 H1 locs1 (adU ad 4 6 q) S1 → W p l e R s m args below meth c H1 locs1 (cells + 1) (slots + v.toNatClampNeg) Q (F0 m (pc + 5) ls rest)) : W p l e R s m args below meth c H locs cells slots Q (F0 m pc ls (.int v :: .ref (ad 4 0) :: rest)) := by
  subst e1
  have hn' := of_decide_eq_true hn
  refine va_newa (atype := .int) F.1 F.2.1 (F.2.2.2.2 _ lk_117) rfl hK.1 hw.1 hw.2.1 hw.2.2 hA (a0 := (v.toNatClampNeg, .inl (fun _ => 0))) (fun _ => rfl) hn'.1 rfl hn'.2 hc hs hd1 (fun q cA H1 hK1 hP1 hD1 hS1 => ?_)
  have hcA : cA = ar 0 := by
    have h1 : s.vm.findClass ("[" ++ FieldType.int.toString) = some cA := (hK1.2 4 (cA, .int) rfl).2
    have h2 : s.vm.findClass ("[" ++ FieldType.int.toString) = some (ar 0) := (hK1.2 0 (ar 0, .int) rfl).2
    exact Option.some.inj (h1.symm.trans h2)
  subst hcA
  refine va_put (ty := .array .int) F.1 F.2.1 F.2.2.2.2 ig_Chart ty_Chart tk_Chart nm_Chart F.2.2.2.1 hK1 hP1 hD1 hS1 16 rfl (rfl : classes[4]? = some (R_Chart, T_Chart, 18)) 5 (by decide) (F.2.2.2.2 _ hl) (fun _ h => h) rfl (tk_Chart 5 (by decide)) rfl rfl (Nat.le_of_ble_eq_true rfl) hd2 (fun H2 locs2 hP2 hD2 hS2 => ?_)
  exact kk q H2 locs2 ⟨hP2.sub [0, 1, 2, 3, 4, 5, 6, 7, 8, 9, 10, 11, 12, 13, 14, 15, 16, 17, 18, 19, 20, 53, 22, 23, 24, 25, 26, 27, 28, 29, 30, 31, 32, 33, 34, 35, 36, 37, 38, 39, 40, 41, 42, 43, 44, 45, 46, 47, 48, 49, 50, 51, 52] rfl, hD2.sub [0, 1, 2, 3, 4, 5, 6, 7, 8, 9, 10, 11, 12, 13, 14, 15, 16, 17, 18, 19, 20, 53, 22, 23, 24, 25, 26, 27, 28, 29, 30, 31, 32, 33, 34, 35, 36, 37, 38, 39, 40, 41, 42, 43, 44, 45, 46, 47, 48, 49, 50, 51, 52] (by decide) rfl, hS2⟩
set_option maxHeartbeats 2000000 in
theorem new_4_6 (F : CallFix p m c cc nL s args gt own) (hA : ∀ q, H0.size ≤ q → A q) (hK : KK D ar A s) (hw : Bw cw D ar A H0 H locs ad S) (hl : Cond.fieldLink own idx "LawfulLots$Chart" "shares" "[I" ∈ gt) (hd1 : decode cc pc = .ok (.newarray .int, 2)) (hd2 : decode cc (pc + 2) = .ok (.putfield idx, 3)) (hn : okn v = true) (hc : cells + 1 ≤ R.cells) (hs : slots + v.toNatClampNeg ≤ R.slots) (e1 : S1 = pZ S 4 6 v.toNatClampNeg)
    (kk : ∀ (q : Nat) (H1 : Heap) (locs1 : List Loc), Bw cw D ar A H0 H1 locs1 (adU ad 4 7 q) S1 → W p l e R s m args below meth c H1 locs1 (cells + 1) (slots + v.toNatClampNeg) Q (F0 m (pc + 5) ls rest)) : W p l e R s m args below meth c H locs cells slots Q (F0 m pc ls (.int v :: .ref (ad 4 0) :: rest)) := by
  subst e1
  have hn' := of_decide_eq_true hn
  refine va_newa (atype := .int) F.1 F.2.1 (F.2.2.2.2 _ lk_117) rfl hK.1 hw.1 hw.2.1 hw.2.2 hA (a0 := (v.toNatClampNeg, .inl (fun _ => 0))) (fun _ => rfl) hn'.1 rfl hn'.2 hc hs hd1 (fun q cA H1 hK1 hP1 hD1 hS1 => ?_)
  have hcA : cA = ar 0 := by
    have h1 : s.vm.findClass ("[" ++ FieldType.int.toString) = some cA := (hK1.2 4 (cA, .int) rfl).2
    have h2 : s.vm.findClass ("[" ++ FieldType.int.toString) = some (ar 0) := (hK1.2 0 (ar 0, .int) rfl).2
    exact Option.some.inj (h1.symm.trans h2)
  subst hcA
  refine va_put (ty := .array .int) F.1 F.2.1 F.2.2.2.2 ig_Chart ty_Chart tk_Chart nm_Chart F.2.2.2.1 hK1 hP1 hD1 hS1 16 rfl (rfl : classes[4]? = some (R_Chart, T_Chart, 18)) 6 (by decide) (F.2.2.2.2 _ hl) (fun _ h => h) rfl (tk_Chart 6 (by decide)) rfl rfl (Nat.le_of_ble_eq_true rfl) hd2 (fun H2 locs2 hP2 hD2 hS2 => ?_)
  exact kk q H2 locs2 ⟨hP2.sub [0, 1, 2, 3, 4, 5, 6, 7, 8, 9, 10, 11, 12, 13, 14, 15, 16, 17, 18, 19, 20, 21, 53, 23, 24, 25, 26, 27, 28, 29, 30, 31, 32, 33, 34, 35, 36, 37, 38, 39, 40, 41, 42, 43, 44, 45, 46, 47, 48, 49, 50, 51, 52] rfl, hD2.sub [0, 1, 2, 3, 4, 5, 6, 7, 8, 9, 10, 11, 12, 13, 14, 15, 16, 17, 18, 19, 20, 21, 53, 23, 24, 25, 26, 27, 28, 29, 30, 31, 32, 33, 34, 35, 36, 37, 38, 39, 40, 41, 42, 43, 44, 45, 46, 47, 48, 49, 50, 51, 52] (by decide) rfl, hS2⟩
set_option maxHeartbeats 2000000 in
theorem new_4_7 (F : CallFix p m c cc nL s args gt own) (hA : ∀ q, H0.size ≤ q → A q) (hK : KK D ar A s) (hw : Bw cw D ar A H0 H locs ad S) (hl : Cond.fieldLink own idx "LawfulLots$Chart" "order" "[I" ∈ gt) (hd1 : decode cc pc = .ok (.newarray .int, 2)) (hd2 : decode cc (pc + 2) = .ok (.putfield idx, 3)) (hn : okn v = true) (hc : cells + 1 ≤ R.cells) (hs : slots + v.toNatClampNeg ≤ R.slots) (e1 : S1 = pZ S 4 7 v.toNatClampNeg)
    (kk : ∀ (q : Nat) (H1 : Heap) (locs1 : List Loc), Bw cw D ar A H0 H1 locs1 (adU ad 4 8 q) S1 → W p l e R s m args below meth c H1 locs1 (cells + 1) (slots + v.toNatClampNeg) Q (F0 m (pc + 5) ls rest)) : W p l e R s m args below meth c H locs cells slots Q (F0 m pc ls (.int v :: .ref (ad 4 0) :: rest)) := by
  subst e1
  have hn' := of_decide_eq_true hn
  refine va_newa (atype := .int) F.1 F.2.1 (F.2.2.2.2 _ lk_117) rfl hK.1 hw.1 hw.2.1 hw.2.2 hA (a0 := (v.toNatClampNeg, .inl (fun _ => 0))) (fun _ => rfl) hn'.1 rfl hn'.2 hc hs hd1 (fun q cA H1 hK1 hP1 hD1 hS1 => ?_)
  have hcA : cA = ar 0 := by
    have h1 : s.vm.findClass ("[" ++ FieldType.int.toString) = some cA := (hK1.2 4 (cA, .int) rfl).2
    have h2 : s.vm.findClass ("[" ++ FieldType.int.toString) = some (ar 0) := (hK1.2 0 (ar 0, .int) rfl).2
    exact Option.some.inj (h1.symm.trans h2)
  subst hcA
  refine va_put (ty := .array .int) F.1 F.2.1 F.2.2.2.2 ig_Chart ty_Chart tk_Chart nm_Chart F.2.2.2.1 hK1 hP1 hD1 hS1 16 rfl (rfl : classes[4]? = some (R_Chart, T_Chart, 18)) 7 (by decide) (F.2.2.2.2 _ hl) (fun _ h => h) rfl (tk_Chart 7 (by decide)) rfl rfl (Nat.le_of_ble_eq_true rfl) hd2 (fun H2 locs2 hP2 hD2 hS2 => ?_)
  exact kk q H2 locs2 ⟨hP2.sub [0, 1, 2, 3, 4, 5, 6, 7, 8, 9, 10, 11, 12, 13, 14, 15, 16, 17, 18, 19, 20, 21, 22, 53, 24, 25, 26, 27, 28, 29, 30, 31, 32, 33, 34, 35, 36, 37, 38, 39, 40, 41, 42, 43, 44, 45, 46, 47, 48, 49, 50, 51, 52] rfl, hD2.sub [0, 1, 2, 3, 4, 5, 6, 7, 8, 9, 10, 11, 12, 13, 14, 15, 16, 17, 18, 19, 20, 21, 22, 53, 24, 25, 26, 27, 28, 29, 30, 31, 32, 33, 34, 35, 36, 37, 38, 39, 40, 41, 42, 43, 44, 45, 46, 47, 48, 49, 50, 51, 52] (by decide) rfl, hS2⟩
theorem cp_2_0T (F : CallFix p m c cc nL s args gt own) (hK : KK D ar A s) (hw : Bw cw D ar A H0 H locs ad S) (hl : Cond.fieldLink own idx "LawfulLots$Scanner" "text" "[B" ∈ gt) (hd : decode cc pc = .ok (.putfield idx, 3)) (k : ∀ H1 locs1, Bw cw D ar A H0 H1 locs1 (adT ad) S → W p l e R s m args below meth c H1 locs1 cells slots Q (F0 m (pc + 3) ls rest)) : W p l e R s m args below meth c H locs cells slots Q (F0 m pc ls (.ref (ad 0 1) :: .ref (ad 2 0) :: rest)) :=
  va_put (ty := .array .byte) F.1 F.2.1 F.2.2.2.2 ig_Scanner ty_Scanner tk_Scanner nm_Scanner F.2.2.2.1 hK.1 hw.1 hw.2.1 hw.2.2 4 rfl (rfl : classes[2]? = some (R_Scanner, T_Scanner, 7)) 0 (by decide) (F.2.2.2.2 _ hl) (fun _ h => h) rfl (tk_Scanner 0 (by decide)) rfl rfl (Nat.le_of_ble_eq_true rfl) hd (fun H1 locs1 hP hD hS => k H1 locs1 ⟨hP, hD, hS⟩)
end RCM
