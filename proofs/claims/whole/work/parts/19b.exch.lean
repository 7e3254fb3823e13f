def xw : WF := fun ar ad S => [(ad 0 0, .inr (0, [.ref (ad 0 1), .ref (ad 1 0), .ref (ad 4 0), .ref (ad 7 0), .ref (ad 8 0), .ref (ad 9 0), .int (gI S 0 6), .int (gI S 0 7)])),
  (ad 0 1, .inl (ar 2, (2000, .inl (gA S 0 0)))),
  (ad 1 0, .inr (1, [.ref (ad 2 0), .ref (ad 1 2), .ref (ad 3 0), .int (gI S 1 3), .int (gI S 1 4), .int (gI S 1 5), .int (gI S 1 6), .int (gI S 1 7), .int (gI S 1 8), .int (gI S 1 9), .int (gI S 1 10), .int (gI S 1 11), .int (gI S 1 12), .int (gI S 1 13), .long (gL S 1 14), .int (gI S 1 15), .int (gI S 1 16)])),
  (ad 1 2, .inl (ar 0, (64, .inl (gA S 1 1)))),
  (ad 2 0, .inr (2, [.ref (ad 2 1), .int (gI S 2 1), .int (gI S 2 2), .int (gI S 2 3), .int (gI S 2 4), .int (gI S 2 5), .long (gL S 2 6)])),
  (ad 3 0, .inr (3, [.ref (ad 3 1), .ref (ad 3 2), .ref (ad 3 3), .ref (ad 3 4), .ref (ad 3 5), .ref (ad 3 6), .ref (ad 3 7), .ref (ad 3 8), .ref (ad 3 9), .ref (ad 3 10), .int (gI S 3 10), .int (gI S 3 11), .int (gI S 3 12)])),
  (ad 3 1, .inl (ar 1, (8, .inr (.inl (gB S 3 0))))),
  (ad 3 2, .inl (ar 0, (8, .inl (gA S 3 1)))),
  (ad 3 3, .inl (ar 0, (8, .inl (gA S 3 2)))),
  (ad 3 4, .inl (ar 0, (8, .inl (gA S 3 3)))),
  (ad 3 5, .inl (ar 0, (6, .inl (gA S 3 4)))),
  (ad 3 6, .inl (ar 0, (8, .inl (gA S 3 5)))),
  (ad 3 7, .inl (ar 0, (400, .inl (gA S 3 6)))),
  (ad 3 8, .inl (ar 0, (48, .inl (gA S 3 7)))),
  (ad 3 9, .inl (ar 0, (48, .inl (gA S 3 8)))),
  (ad 3 10, .inl (ar 0, (48, .inl (gA S 3 9)))),
  (ad 4 0, .inr (4, [.ref (ad 6 0), .ref (ad 4 2), .ref (ad 4 3), .ref (ad 4 4), .ref (ad 4 5), .ref (ad 4 6), .ref (ad 4 7), .ref (ad 4 8), .ref (ad 3 0), .int (gI S 4 9), .int (gI S 4 10), .int (gI S 4 11), .int (gI S 4 12), .int (gI S 4 13), .int (gI S 4 14), .int (gI S 4 15), .int (gI S 4 16), .int (gI S 4 17)])),
  (ad 4 2, .inl (ar 0, (8, .inl (gA S 4 1)))),
  (ad 4 3, .inl (ar 0, (256, .inl (gA S 4 2)))),
  (ad 4 4, .inl (ar 0, (256, .inl (gA S 4 3)))),
  (ad 4 5, .inl (ar 0, (512, .inl (gA S 4 4)))),
  (ad 4 6, .inl (ar 0, ((gN S 4 5), .inl (gA S 4 5)))),
  (ad 4 7, .inl (ar 0, ((gN S 4 6), .inl (gA S 4 6)))),
  (ad 4 8, .inl (ar 0, ((gN S 4 7), .inl (gA S 4 7)))),
  (ad 5 0, .inr (3, [.ref (ad 5 1), .ref (ad 5 2), .ref (ad 5 3), .ref (ad 5 4), .ref (ad 5 5), .ref (ad 5 6), .ref (ad 5 7), .ref (ad 5 8), .ref (ad 5 9), .ref (ad 5 10), .int (gI S 5 10), .int (gI S 5 11), .int (gI S 5 12)])),
  (ad 5 1, .inl (ar 1, (8, .inr (.inl (gB S 5 0))))),
  (ad 5 2, .inl (ar 0, (8, .inl (gA S 5 1)))),
  (ad 5 3, .inl (ar 0, (8, .inl (gA S 5 2)))),
  (ad 5 4, .inl (ar 0, (8, .inl (gA S 5 3)))),
  (ad 5 5, .inl (ar 0, (6, .inl (gA S 5 4)))),
  (ad 5 6, .inl (ar 0, (8, .inl (gA S 5 5)))),
  (ad 5 7, .inl (ar 0, (400, .inl (gA S 5 6)))),
  (ad 5 8, .inl (ar 0, (48, .inl (gA S 5 7)))),
  (ad 5 9, .inl (ar 0, (48, .inl (gA S 5 8)))),
  (ad 5 10, .inl (ar 0, (48, .inl (gA S 5 9)))),
  (ad 6 0, .inr (5, [.ref (ad 6 1)])),
  (ad 6 1, .inl (ar 0, (64, .inl (gA S 6 0)))),
  (ad 7 0, .inr (6, [.ref (ad 7 1), .int (gI S 7 1)])),
  (ad 7 1, .inl (ar 0, (200, .inl (gA S 7 0)))),
  (ad 8 0, .inr (7, [.ref (ad 8 1), .ref (ad 8 2), .ref (ad 8 3), .ref (ad 8 4), .ref (ad 8 5), .ref (ad 8 6), .int (gI S 8 6), .int (gI S 8 7), .int (gI S 8 8), .int (gI S 8 9), .int (gI S 8 10)])),
  (ad 8 1, .inl (ar 0, (256, .inl (gA S 8 0)))),
  (ad 8 2, .inl (ar 0, (256, .inl (gA S 8 1)))),
  (ad 8 3, .inl (ar 0, (256, .inl (gA S 8 2)))),
  (ad 8 4, .inl (ar 0, (8, .inl (gA S 8 3)))),
  (ad 8 5, .inl (ar 0, (8, .inl (gA S 8 4)))),
  (ad 8 6, .inl (ar 0, (256, .inl (gA S 8 5)))),
  (ad 9 0, .inr (8, [.ref (ad 10 0), .ref (ad 9 2), .ref (ad 9 3), .ref (ad 9 4), .ref (ad 9 5), .int (gI S 9 5), .int (gI S 9 6)])),
  (ad 9 2, .inl (ar 0, (8, .inl (gA S 9 1)))),
  (ad 9 3, .inl (ar 0, (8, .inl (gA S 9 2)))),
  (ad 9 4, .inl (ar 1, (64, .inr (.inl (gB S 9 3))))),
  (ad 9 5, .inl (ar 1, (640, .inr (.inl (gB S 9 4))))),
  (ad 10 0, .inr (5, [.ref (ad 10 1)])),
  (ad 10 1, .inl (ar 0, (64, .inl (gA S 10 0))))]
section RWx
variable {p : Program} {l : Launch} {e : Env} {R : Room} {s : State} {m : MethodId} {args : Array Value} {below : List Frame} {meth : Method} {c : Code} {H H0 : Heap} {locs : List Loc} {cells slots : Nat} {Q : State → Prop} {cc : ByteArray} {nL pc idx : Nat} {ls : Array Slot} {rest : List Value} {own : String} {D : va_G} {ar : Nat → ClassId} {A : Nat → Prop} {ad : Nat → Nat → Nat} {S S1 : St} {i v : Int32} {w : Int64}

theorem xg_0_2 (F : CallFix p m c cc nL s args gt own) (hK : KK D ar A s) (hw : Bw xw D ar A H0 H locs ad S) (hl : Cond.fieldLink own idx "LawfulLots" "chart" "LLawfulLots$Chart;" ∈ gt) (hd : decode cc pc = .ok (.getfield idx, 3)) (k : W p l e R s m args below meth c H locs cells slots Q (F0 m (pc + 3) ls (.ref (ad 4 0) :: rest))) : W p l e R s m args below meth c H locs cells slots Q (F0 m pc ls (.ref (ad 0 0) :: rest)) := va_get F.1 F.2.1 F.2.2.2.2 ig_Lots F.2.2.2.1 hK.1 hw.1 0 rfl (rfl : classes[0]? = some (R_Lots, T_Lots, 8)) 2 (by decide) (F.2.2.2.2 _ hl) (fun _ h => h) rfl hd k
theorem xr_3 (hK : KK D ar A s) (hw : Bw xw D ar A H0 H locs ad S) : ∃ cell : Cell, H[ad 3 0]? = some cell ∧ cell.vm.isStatics = false ∧ s.vm.findClass R_Book = some cell.cls := va_recv hK.1 hw.1 (ci := 3) (q0 := 5) rfl rfl
theorem xg_3_4 (F : CallFix p m c cc nL s args gt own) (hK : KK D ar A s) (hw : Bw xw D ar A H0 H locs ad S) (hl : Cond.fieldLink own idx "LawfulLots$Book" "told" "[I" ∈ gt) (hd : decode cc pc = .ok (.getfield idx, 3)) (k : W p l e R s m args below meth c H locs cells slots Q (F0 m (pc + 3) ls (.ref (ad 3 5) :: rest))) : W p l e R s m args below meth c H locs cells slots Q (F0 m pc ls (.ref (ad 3 0) :: rest)) := va_get F.1 F.2.1 F.2.2.2.2 ig_Book F.2.2.2.1 hK.1 hw.1 5 rfl (rfl : classes[3]? = some (R_Book, T_Book, 13)) 4 (by decide) (F.2.2.2.2 _ hl) (fun _ h => h) rfl hd k
theorem xl_3_4 (F : CallFix p m c cc nL s args gt own) (hK : KK D ar A s) (hw : Bw xw D ar A H0 H locs ad S) (hin : inb i 6 = true) (hd : decode cc pc = .ok (.iaload, 1)) (k : W p l e R s m args below meth c H locs cells slots Q (F0 m (pc + 1) ls (.int (gA S 3 4 i.toNatClampNeg) :: rest))) : W p l e R s m args below meth c H locs cells slots Q (F0 m pc ls (.int i :: .ref (ad 3 5) :: rest)) := va_iald F.1 F.2.1 hK.1 hw.1 10 0 rfl rfl (inb_in hin) hd k
theorem xn_3_4 (F : CallFix p m c cc nL s args gt own) (hK : KK D ar A s) (hw : Bw xw D ar A H0 H locs ad S) (hd : decode cc pc = .ok (.arraylength, 1)) (k : W p l e R s m args below meth c H locs cells slots Q (F0 m (pc + 1) ls (.int (nI 6) :: rest))) : W p l e R s m args below meth c H locs cells slots Q (F0 m pc ls (.ref (ad 3 5) :: rest)) := va_alen F.1 F.2.1 hK.1 hw.1 10 0 rfl rfl rfl hd k
theorem xr_4 (hK : KK D ar A s) (hw : Bw xw D ar A H0 H locs ad S) : ∃ cell : Cell, H[ad 4 0]? = some cell ∧ cell.vm.isStatics = false ∧ s.vm.findClass R_Chart = some cell.cls := va_recv hK.1 hw.1 (ci := 4) (q0 := 16) rfl rfl
theorem xg_4_8 (F : CallFix p m c cc nL s args gt own) (hK : KK D ar A s) (hw : Bw xw D ar A H0 H locs ad S) (hl : Cond.fieldLink own idx "LawfulLots$Chart" "book" "LLawfulLots$Book;" ∈ gt) (hd : decode cc pc = .ok (.getfield idx, 3)) (k : W p l e R s m args below meth c H locs cells slots Q (F0 m (pc + 3) ls (.ref (ad 3 0) :: rest))) : W p l e R s m args below meth c H locs cells slots Q (F0 m pc ls (.ref (ad 4 0) :: rest)) := va_get F.1 F.2.1 F.2.2.2.2 ig_Chart F.2.2.2.1 hK.1 hw.1 16 rfl (rfl : classes[4]? = some (R_Chart, T_Chart, 18)) 8 (by decide) (F.2.2.2.2 _ hl) (fun _ h => h) rfl hd k
theorem xp_4_12 (F : CallFix p m c cc nL s args gt own) (hK : KK D ar A s) (hw : Bw xw D ar A H0 H locs ad S) (hl : Cond.fieldLink own idx "LawfulLots$Chart" "on" "I" ∈ gt) (hd : decode cc pc = .ok (.putfield idx, 3)) (e1 : S1 = pI S 4 12 v) (k : ∀ H1 locs1, Bw xw D ar A H0 H1 locs1 ad S1 → W p l e R s m args below meth c H1 locs1 cells slots Q (F0 m (pc + 3) ls (rest))) : W p l e R s m args below meth c H locs cells slots Q (F0 m pc ls (.int v :: .ref (ad 4 0) :: rest)) := by
  subst e1
  exact va_put F.1 F.2.1 F.2.2.2.2 ig_Chart ty_Chart tk_Chart nm_Chart F.2.2.2.1 hK.1 hw.1 hw.2.1 hw.2.2 16 rfl (rfl : classes[4]? = some (R_Chart, T_Chart, 18)) 12 (by decide) (F.2.2.2.2 _ hl) (fun _ h => h) rfl (tk_Chart 12 (by decide)) rfl rfl (Nat.le_of_ble_eq_true rfl) hd (fun H1 locs1 hP hD hS => k H1 locs1 ⟨hP, hD, hS⟩)
theorem xp_4_13 (F : CallFix p m c cc nL s args gt own) (hK : KK D ar A s) (hw : Bw xw D ar A H0 H locs ad S) (hb : isB v = true) (hl : Cond.fieldLink own idx "LawfulLots$Chart" "lawsMarked" "Z" ∈ gt) (hd : decode cc pc = .ok (.putfield idx, 3)) (e1 : S1 = pI S 4 13 v) (k : ∀ H1 locs1, Bw xw D ar A H0 H1 locs1 ad S1 → W p l e R s m args below meth c H1 locs1 cells slots Q (F0 m (pc + 3) ls (rest))) : W p l e R s m args below meth c H locs cells slots Q (F0 m pc ls (.int v :: .ref (ad 4 0) :: rest)) := by
  subst e1
  exact va_put F.1 F.2.1 F.2.2.2.2 ig_Chart ty_Chart tk_Chart nm_Chart F.2.2.2.1 hK.1 hw.1 hw.2.1 hw.2.2 16 rfl (rfl : classes[4]? = some (R_Chart, T_Chart, 18)) 13 (by decide) (F.2.2.2.2 _ hl) (fun _ h => h) rfl (tk_Chart 13 (by decide)) (isB_narrow hb) (isB_fits hb) (Nat.le_of_ble_eq_true rfl) hd (fun H1 locs1 hP hD hS => k H1 locs1 ⟨hP, hD, hS⟩)
theorem xp_4_14 (F : CallFix p m c cc nL s args gt own) (hK : KK D ar A s) (hw : Bw xw D ar A H0 H locs ad S) (hb : isB v = true) (hl : Cond.fieldLink own idx "LawfulLots$Chart" "binsMarked" "Z" ∈ gt) (hd : decode cc pc = .ok (.putfield idx, 3)) (e1 : S1 = pI S 4 14 v) (k : ∀ H1 locs1, Bw xw D ar A H0 H1 locs1 ad S1 → W p l e R s m args below meth c H1 locs1 cells slots Q (F0 m (pc + 3) ls (rest))) : W p l e R s m args below meth c H locs cells slots Q (F0 m pc ls (.int v :: .ref (ad 4 0) :: rest)) := by
  subst e1
  exact va_put F.1 F.2.1 F.2.2.2.2 ig_Chart ty_Chart tk_Chart nm_Chart F.2.2.2.1 hK.1 hw.1 hw.2.1 hw.2.2 16 rfl (rfl : classes[4]? = some (R_Chart, T_Chart, 18)) 14 (by decide) (F.2.2.2.2 _ hl) (fun _ h => h) rfl (tk_Chart 14 (by decide)) (isB_narrow hb) (isB_fits hb) (Nat.le_of_ble_eq_true rfl) hd (fun H1 locs1 hP hD hS => k H1 locs1 ⟨hP, hD, hS⟩)
theorem xp_4_15 (F : CallFix p m c cc nL s args gt own) (hK : KK D ar A s) (hw : Bw xw D ar A H0 H locs ad S) (hb : isB v = true) (hl : Cond.fieldLink own idx "LawfulLots$Chart" "sharesTold" "Z" ∈ gt) (hd : decode cc pc = .ok (.putfield idx, 3)) (e1 : S1 = pI S 4 15 v) (k : ∀ H1 locs1, Bw xw D ar A H0 H1 locs1 ad S1 → W p l e R s m args below meth c H1 locs1 cells slots Q (F0 m (pc + 3) ls (rest))) : W p l e R s m args below meth c H locs cells slots Q (F0 m pc ls (.int v :: .ref (ad 4 0) :: rest)) := by
  subst e1
  exact va_put F.1 F.2.1 F.2.2.2.2 ig_Chart ty_Chart tk_Chart nm_Chart F.2.2.2.1 hK.1 hw.1 hw.2.1 hw.2.2 16 rfl (rfl : classes[4]? = some (R_Chart, T_Chart, 18)) 15 (by decide) (F.2.2.2.2 _ hl) (fun _ h => h) rfl (tk_Chart 15 (by decide)) (isB_narrow hb) (isB_fits hb) (Nat.le_of_ble_eq_true rfl) hd (fun H1 locs1 hP hD hS => k H1 locs1 ⟨hP, hD, hS⟩)
theorem xp_4_16 (F : CallFix p m c cc nL s args gt own) (hK : KK D ar A s) (hw : Bw xw D ar A H0 H locs ad S) (hb : isB v = true) (hl : Cond.fieldLink own idx "LawfulLots$Chart" "fresh" "Z" ∈ gt) (hd : decode cc pc = .ok (.putfield idx, 3)) (e1 : S1 = pI S 4 16 v) (k : ∀ H1 locs1, Bw xw D ar A H0 H1 locs1 ad S1 → W p l e R s m args below meth c H1 locs1 cells slots Q (F0 m (pc + 3) ls (rest))) : W p l e R s m args below meth c H locs cells slots Q (F0 m pc ls (.int v :: .ref (ad 4 0) :: rest)) := by
  subst e1
  exact va_put F.1 F.2.1 F.2.2.2.2 ig_Chart ty_Chart tk_Chart nm_Chart F.2.2.2.1 hK.1 hw.1 hw.2.1 hw.2.2 16 rfl (rfl : classes[4]? = some (R_Chart, T_Chart, 18)) 16 (by decide) (F.2.2.2.2 _ hl) (fun _ h => h) rfl (tk_Chart 16 (by decide)) (isB_narrow hb) (isB_fits hb) (Nat.le_of_ble_eq_true rfl) hd (fun H1 locs1 hP hD hS => k H1 locs1 ⟨hP, hD, hS⟩)
theorem xp_4_17 (F : CallFix p m c cc nL s args gt own) (hK : KK D ar A s) (hw : Bw xw D ar A H0 H locs ad S) (hb : isB v = true) (hl : Cond.fieldLink own idx "LawfulLots$Chart" "summed" "Z" ∈ gt) (hd : decode cc pc = .ok (.putfield idx, 3)) (e1 : S1 = pI S 4 17 v) (k : ∀ H1 locs1, Bw xw D ar A H0 H1 locs1 ad S1 → W p l e R s m args below meth c H1 locs1 cells slots Q (F0 m (pc + 3) ls (rest))) : W p l e R s m args below meth c H locs cells slots Q (F0 m pc ls (.int v :: .ref (ad 4 0) :: rest)) := by
  subst e1
  exact va_put F.1 F.2.1 F.2.2.2.2 ig_Chart ty_Chart tk_Chart nm_Chart F.2.2.2.1 hK.1 hw.1 hw.2.1 hw.2.2 16 rfl (rfl : classes[4]? = some (R_Chart, T_Chart, 18)) 17 (by decide) (F.2.2.2.2 _ hl) (fun _ h => h) rfl (tk_Chart 17 (by decide)) (isB_narrow hb) (isB_fits hb) (Nat.le_of_ble_eq_true rfl) hd (fun H1 locs1 hP hD hS => k H1 locs1 ⟨hP, hD, hS⟩)
def sw35 (o : Nat) : Nat := cond (Nat.beq o 3) 5 (cond (Nat.beq o 5) 3 o)
def swX (S : St) : St := (fun o k => S.1 (sw35 o) k, fun o k => S.2.1 (sw35 o) k, fun o k => S.2.2.1 (sw35 o) k, fun o k => S.2.2.2.1 (sw35 o) k, fun o k => S.2.2.2.2 (sw35 o) k)
def adX (ad : Nat → Nat → Nat) : Nat → Nat → Nat := fun o k => ad (sw35 o) k
theorem cp_4_8x (F : CallFix p m c cc nL s args gt own) (hK : KK D ar A s) (hw : Bw cw D ar A H0 H locs ad S) (hl : Cond.fieldLink own idx "LawfulLots$Chart" "book" "LLawfulLots$Book;" ∈ gt) (hd : decode cc pc = .ok (.putfield idx, 3)) (k : ∀ H1 locs1, Bw xw D ar A H0 H1 locs1 ad S → W p l e R s m args below meth c H1 locs1 cells slots Q (F0 m (pc + 3) ls rest)) : W p l e R s m args below meth c H locs cells slots Q (F0 m pc ls (.ref (ad 3 0) :: .ref (ad 4 0) :: rest)) :=
  va_put (ty := .object "LawfulLots$Book") F.1 F.2.1 F.2.2.2.2 ig_Chart ty_Chart tk_Chart nm_Chart F.2.2.2.1 hK.1 hw.1 hw.2.1 hw.2.2 16 rfl (rfl : classes[4]? = some (R_Chart, T_Chart, 18)) 8 (by decide) (F.2.2.2.2 _ hl) (fun _ h => h) rfl (tk_Chart 8 (by decide)) rfl rfl (Nat.le_of_ble_eq_true rfl) hd (fun H1 locs1 hP hD hS => k H1 locs1 ⟨hP, hD, hS⟩)
set_option maxHeartbeats 2000000 in
theorem xp_1_2c (F : CallFix p m c cc nL s args gt own) (hK : KK D ar A s) (hw : Bw xw D ar A H0 H locs ad S) (hl : Cond.fieldLink own idx "LawfulLots$Reader" "draft" "LLawfulLots$Book;" ∈ gt) (hd : decode cc pc = .ok (.putfield idx, 3)) (e1 : S1 = swX S) (k : ∀ H1 locs1, Bw cw D ar A H0 H1 locs1 (adX ad) S1 → W p l e R s m args below meth c H1 locs1 cells slots Q (F0 m (pc + 3) ls rest)) : W p l e R s m args below meth c H locs cells slots Q (F0 m pc ls (.ref (ad 5 0) :: .ref (ad 1 0) :: rest)) := by
  subst e1
  exact va_put (ty := .object "LawfulLots$Book") F.1 F.2.1 F.2.2.2.2 ig_Reader ty_Reader tk_Reader nm_Reader F.2.2.2.1 hK.1 hw.1 hw.2.1 hw.2.2 2 rfl (rfl : classes[1]? = some (R_Reader, T_Reader, 17)) 2 (by decide) (F.2.2.2.2 _ hl) (fun _ h => h) rfl (tk_Reader 2 (by decide)) rfl rfl (Nat.le_of_ble_eq_true rfl) hd (fun H1 locs1 hP hD hS => k H1 locs1 ⟨hP.sub [0, 1, 2, 3, 4, 24, 25, 26, 27, 28, 29, 30, 31, 32, 33, 34, 16, 17, 18, 19, 20, 21, 22, 23, 5, 6, 7, 8, 9, 10, 11, 12, 13, 14, 15, 35, 36, 37, 38, 39, 40, 41, 42, 43, 44, 45, 46, 47, 48, 49, 50, 51, 52] rfl, hD.sub [0, 1, 2, 3, 4, 24, 25, 26, 27, 28, 29, 30, 31, 32, 33, 34, 16, 17, 18, 19, 20, 21, 22, 23, 5, 6, 7, 8, 9, 10, 11, 12, 13, 14, 15, 35, 36, 37, 38, 39, 40, 41, 42, 43, 44, 45, 46, 47, 48, 49, 50, 51, 52] (by decide) rfl, hS⟩)
def MX (l : Launch) (y : MethodName) (cc : ByteArray) (mL : Nat) (rt : Option FieldType) (fr lo : Nat) (S : St) (S' : St) : Prop :=
  ∀ (D : va_G) (ar : Nat → ClassId) (ad : Nat → Nat → Nat) (sz : Nat), Met l y (.code y cc mL rt :: gt) (RM fr lo) (PreW cw D ar ad S sz [.ref (ad 4 0), .ref (ad 3 0)]) (va_Qr (fun u : St => u = S') (fun u a t => a = ad 5 0 ∧ va_P D classes (xw ar ad u) t.heap ∧ va_D (va_A (cw ar ad S) sz) (xw ar ad u)) (va_A (cw ar ad S) sz)) 0 0 (va_A (cw ar ad S) sz)
theorem cVx {y : MethodName} {bc : ByteArray} {mL fr lo n b : Nat} {rt : Option FieldType} {As st : List Value} {C : String} {S' : St} (F : CallFix p m c cc nL s args gt own) (hA : ∀ q, H0.size ≤ q → A q) (e0 : H0 = s.heap) (hK : KK D ar A s) (hw : Bw cw D ar A H0 H locs ad S) (hM : MX l y bc mL rt fr lo S S') (hav : [Value.ref (ad 4 0), .ref (ad 3 0)] = .ref b :: As) (hg : GoodIn gt (wsV own idx C y (.code y bc mL rt :: gt))) (hrec : ∃ cell : Cell, H[b]? = some cell ∧ cell.vm.isStatics = false ∧ s.vm.findClass C = some cell.cls) (hd : y.cls = C ∧ y.cls ≠ "java/lang/invoke/MethodHandle" ∧ y.cls ≠ "java/lang/invoke/VarHandle" ∧ (parseMethodDescriptor y.desc).map (fun d => d.parameters.length) = some n) (hR : fr + 1 ≤ R.frames ∧ 8 + (mL + 11) + lo ≤ R.locals) (hn : As.length = n) (hsz : ls.size = nL) (hst : st = As.reverse ++ .ref b :: rest) (hrm : (rest.map fun v => v.category).sum ≤ 8) (hdg : decode cc pc = .ok (.invokevirtual idx, 3)) (hf : cells ≤ R.cells ∧ slots ≤ R.slots)
    (kk : ∀ (H1 : Heap) (locs1 : List Loc), Bw xw D ar A H0 H1 locs1 ad S' → W p l e R s m args below meth c H1 locs1 cells slots Q (F0 m (pc + 3) ls (.ref (ad 5 0) :: rest))) : W p l e R s m args below meth c H locs cells slots Q (F0 m pc ls st) := by
  refine va_callr (run_V (av := fun ad => [Value.ref (ad 4 0), .ref (ad 3 0)]) F hA e0 hK hw (hM D ar ad H.size) hav hg hrec hd hR hn hsz hst hrm hdg hf) hw.2.2 (fun q _ h => hw.free hA q h) (hw.free hA) (fun u ra t H1 locs1 ht hvm hp hB hz hk hS => ?_)
  obtain ⟨rfl, h1, h3⟩ := hB
  subst hp
  rw [ht] at h1
  exact kk H1 locs1 ⟨h1, h3.weaken (fun _ _ _ h => hw.free hA _ h), hS⟩
end RWx
abbrev aR (a b : Nat → Nat → Nat) : Prop := b = adT a ∨ b = adX (adT a)
set_option maxHeartbeats 4000000 in
set_option maxRecDepth 100000 in
theorem cx_Book_toldOf_3 (l : Launch) {S : St} {x1 : Int32} {r : Int32} (h : f_Book_toldOf 3 S x1 = some r) : MI xw l y_Book_toldOf b_Book_toldOf 2 (some .int) 0 0 0 0 (fun ad => [.ref (ad 3 0), .int x1]) aT aE S r S := by
  refine MI_of "LawfulLots$Book" rfl (by decide) (fun _ => Nat.le_of_ble_eq_true rfl) ?_
  intro p e s m args below meth c D ar ad A Q ls hP F hK hA hw hl hQ
  have hl : lv_has ls 2 [(0, .ref (ad 3 0)), (1, .int x1)] := hl
  obtain ⟨X_0, eX_0⟩ : ∃ X : Int32 → Prop, X = (fun q => ∀ (H : Heap) (locs : List Loc) (pc : Nat) (ls : Array Slot), decode b_Book_toldOf pc = .ok (.ireturn, 1) → Bw xw D ar A s.heap H locs ad S → W p l e (RM 0 0) s m args below meth c H locs 0 0 Q (F0 m pc ls [.int q])) := ⟨_, rfl⟩
  have key : ∀ (H : Heap) (locs : List Loc), Bw xw D ar A s.heap H locs ad S → ∀ o, f_Book_toldOf 3 S x1 = some o → X_0 o → W p l e (RM 0 0) s m args below meth c H locs 0 0 Q (F0 m 0 ls []) := by
    intro H locs hw o h ho
    unfold f_Book_toldOf at h
    have J_23 : ∀ (t0 : Int32) (H : Heap) (locs : List Loc) (ls : Array Slot), Bw xw D ar A s.heap H locs ad S → lv_has ls 2 [] → ∀ o, Book_toldOf_j23 3 S t0 = some o → X_0 o → W p l e (RM 0 0) s m args below meth c H locs 0 0 Q (F0 m 23 ls [.int t0]) := by
      intro t0 H locs ls hw hl o h ho
      unfold Book_toldOf_j23 at h
      cases h
      have ho : X_0 _ := ho
      rw [eX_0] at ho
      exact ho H locs _ ls d_Book_toldOf_23 hw
    have J_22 : ∀ (H : Heap) (locs : List Loc) (ls : Array Slot), Bw xw D ar A s.heap H locs ad S → lv_has ls 2 [] → ∀ o, Book_toldOf_j22 3 S = some o → X_0 o → W p l e (RM 0 0) s m args below meth c H locs 0 0 Q (F0 m 22 ls []) := by
      intro H locs ls hw hl o h ho
      unfold Book_toldOf_j22 at h
      refine lv_iconst (v := 0) F.1 F.2.1 d_Book_toldOf_22 (by decide) ?_
      exact J_23 (0 : Int32) H locs ls hw (lv_sub hl [] rfl) o h ho
    refine lv_iload_n F.1 F.2.1 d_Book_toldOf_0 rfl (lv_at hl 1 rfl) ?_
    refine lv_if_lt (tgt := 22) F.1 F.2.1 d_Book_toldOf_1 (by decide) (fun c_1 => ?_) (fun c_1 => ?_)
    · replace h := ip c_1 h
      exact J_22 H locs ls hw (lv_sub hl [] rfl) o h ho
    · replace h := iq c_1 h
      refine lv_iload_n F.1 F.2.1 d_Book_toldOf_4 rfl (lv_at hl 1 rfl) ?_
      refine lv_aload_n F.1 F.2.1 d_Book_toldOf_5 rfl (lv_at hl 0 rfl) ?_
      refine xg_3_4 F hK hw lk_71 d_Book_toldOf_6 ?_
      refine xn_3_4 F hK hw d_Book_toldOf_9 ?_
      refine lv_icmp_ge (tgt := 22) F.1 F.2.1 d_Book_toldOf_10 (by decide) (fun c_2 => ?_) (fun c_2 => ?_)
      · replace h := ip c_2 h
        exact J_22 H locs ls hw (lv_sub hl [] rfl) o h ho
      · replace h := iq c_2 h
        refine lv_aload_n F.1 F.2.1 d_Book_toldOf_13 rfl (lv_at hl 0 rfl) ?_
        refine xg_3_4 F hK hw lk_71 d_Book_toldOf_14 ?_
        refine lv_iload_n F.1 F.2.1 d_Book_toldOf_17 rfl (lv_at hl 1 rfl) ?_
        obtain ⟨hi_3, h⟩ := gd_ex h
        refine xl_3_4 F hK hw hi_3 d_Book_toldOf_18 ?_
        refine lv_goto (tgt := 23) F.1 F.2.1 d_Book_toldOf_19 (by decide) ?_
        exact J_23 (gA S 3 4 x1.toNatClampNeg) H locs ls hw (lv_sub hl [] rfl) o h ho
  exact key _ _ hw _ h (by rw [eX_0]; exact fun H locs pc ls hd hw => hQ H locs pc ls ad rfl hd hw)
noncomputable def f_Chart_exchange (S : St) : Option St :=
  bd (f_Book_toldOf 3 S (0 : Int32)) fun v_2 =>
  nm (pI S 4 12 (((1 : Int32) <<< (v_2 &&& 31)) - (1 : Int32))) fun S_3 =>
  nm (pI S_3 4 13 (0 : Int32)) fun S_4 =>
  nm (pI S_4 4 14 (0 : Int32)) fun S_5 =>
  nm (pI S_5 4 15 (0 : Int32)) fun S_6 =>
  nm (pI S_6 4 16 (0 : Int32)) fun S_7 =>
  nm (pI S_7 4 17 (0 : Int32)) fun S_8 =>
  some S_8
theorem d_Chart_exchange_0 : decode b_Chart_exchange 0 = .ok (.aload_n 0, 1) := by decide +kernel
theorem d_Chart_exchange_1 : decode b_Chart_exchange 1 = .ok (.getfield 43, 3) := by decide +kernel
theorem d_Chart_exchange_4 : decode b_Chart_exchange 4 = .ok (.astore_n 2, 1) := by decide +kernel
theorem d_Chart_exchange_5 : decode b_Chart_exchange 5 = .ok (.aload_n 0, 1) := by decide +kernel
theorem d_Chart_exchange_6 : decode b_Chart_exchange 6 = .ok (.aload_n 1, 1) := by decide +kernel
theorem d_Chart_exchange_7 : decode b_Chart_exchange 7 = .ok (.putfield 43, 3) := by decide +kernel
theorem d_Chart_exchange_10 : decode b_Chart_exchange 10 = .ok (.aload_n 0, 1) := by decide +kernel
theorem d_Chart_exchange_11 : decode b_Chart_exchange 11 = .ok (.iconst 1, 1) := by decide +kernel
theorem d_Chart_exchange_12 : decode b_Chart_exchange 12 = .ok (.aload_n 0, 1) := by decide +kernel
theorem d_Chart_exchange_13 : decode b_Chart_exchange 13 = .ok (.getfield 43, 3) := by decide +kernel
theorem d_Chart_exchange_16 : decode b_Chart_exchange 16 = .ok (.iconst 0, 1) := by decide +kernel
theorem d_Chart_exchange_17 : decode b_Chart_exchange 17 = .ok (.invokevirtual 76, 3) := by decide +kernel
theorem d_Chart_exchange_20 : decode b_Chart_exchange 20 = .ok (.ishl, 1) := by decide +kernel
theorem d_Chart_exchange_21 : decode b_Chart_exchange 21 = .ok (.iconst 1, 1) := by decide +kernel
theorem d_Chart_exchange_22 : decode b_Chart_exchange 22 = .ok (.isub, 1) := by decide +kernel
theorem d_Chart_exchange_23 : decode b_Chart_exchange 23 = .ok (.putfield 57, 3) := by decide +kernel
theorem d_Chart_exchange_26 : decode b_Chart_exchange 26 = .ok (.aload_n 0, 1) := by decide +kernel
theorem d_Chart_exchange_27 : decode b_Chart_exchange 27 = .ok (.iconst 0, 1) := by decide +kernel
theorem d_Chart_exchange_28 : decode b_Chart_exchange 28 = .ok (.putfield 60, 3) := by decide +kernel
theorem d_Chart_exchange_31 : decode b_Chart_exchange 31 = .ok (.aload_n 0, 1) := by decide +kernel
theorem d_Chart_exchange_32 : decode b_Chart_exchange 32 = .ok (.iconst 0, 1) := by decide +kernel
theorem d_Chart_exchange_33 : decode b_Chart_exchange 33 = .ok (.putfield 64, 3) := by decide +kernel
theorem d_Chart_exchange_36 : decode b_Chart_exchange 36 = .ok (.aload_n 0, 1) := by decide +kernel
theorem d_Chart_exchange_37 : decode b_Chart_exchange 37 = .ok (.iconst 0, 1) := by decide +kernel
theorem d_Chart_exchange_38 : decode b_Chart_exchange 38 = .ok (.putfield 67, 3) := by decide +kernel
theorem d_Chart_exchange_41 : decode b_Chart_exchange 41 = .ok (.aload_n 0, 1) := by decide +kernel
theorem d_Chart_exchange_42 : decode b_Chart_exchange 42 = .ok (.iconst 0, 1) := by decide +kernel
theorem d_Chart_exchange_43 : decode b_Chart_exchange 43 = .ok (.putfield 70, 3) := by decide +kernel
theorem d_Chart_exchange_46 : decode b_Chart_exchange 46 = .ok (.aload_n 0, 1) := by decide +kernel
theorem d_Chart_exchange_47 : decode b_Chart_exchange 47 = .ok (.iconst 0, 1) := by decide +kernel
theorem d_Chart_exchange_48 : decode b_Chart_exchange 48 = .ok (.putfield 73, 3) := by decide +kernel
theorem d_Chart_exchange_51 : decode b_Chart_exchange 51 = .ok (.aload_n 2, 1) := by decide +kernel
theorem d_Chart_exchange_52 : decode b_Chart_exchange 52 = .ok (.areturn, 1) := by decide +kernel
set_option maxHeartbeats 4000000 in
set_option maxRecDepth 100000 in
theorem c_Chart_exchange (l : Launch) {S : St} {S' : St} (h : f_Chart_exchange S = some S') : MX l y_Chart_exchange b_Chart_exchange 3 (some (.object "LawfulLots$Book")) 1 21 S S' := by
  intro D ar ad sz
  refine Met.ofW (cc := b_Chart_exchange) (maxL := 3) (ret := some (.object "LawfulLots$Book")) (by decide) rfl ?_
  intro p e s m args below meth c s₁ B hml hv
  obtain ⟨rfl, hsz, hPw, hK, hD0⟩ := hv
  have hts := atoms_spec (ws := Cond.code y_Chart_exchange b_Chart_exchange 3 (some (.object "LawfulLots$Book")) :: gt) B.pre
  have hown : s.vm.findClass "LawfulLots$Chart" = some m.cls := findClass_of_methodNamed B.named
  subst hsz
  have hl := lv_entry ([Value.ref (ad 4 0), .ref (ad 3 0)]) (n := 3) (Nat.le_of_ble_eq_true rfl)
  rw [lg_entry_eq]
  generalize (lg_sl ([Value.ref (ad 4 0), .ref (ad 3 0)]) ++ List.replicate (3 - (lg_sl ([Value.ref (ad 4 0), .ref (ad 3 0)])).length) Slot.unset).toArray = ls at hl ⊢
  have F : CallFix p m c b_Chart_exchange 3 s [Value.ref (ad 4 0), .ref (ad 3 0)].toArray gt "LawfulLots$Chart" := ⟨B.exec, B.bytes, hml, hown, fun w hw => hts w (List.mem_cons_of_mem _ hw)⟩
  have hA : ∀ q, s.heap.size ≤ q → va_A (cw ar ad S) s.heap.size q := fun q h => Or.inr h
  have hw : Bw cw D ar (va_A (cw ar ad S) s.heap.size) s.heap s.heap [] ad S := ⟨hPw, hD0.self, va_S.rf⟩
  have hl : lv_has ls 3 [(0, .ref (ad 4 0)), (1, .ref (ad 3 0))] := hl
  generalize hAe : va_A (cw ar ad S) s.heap.size = A at hK hA hw ⊢
  obtain ⟨Q, eQ⟩ : ∃ Q : State → Prop, Q = (MQ below (va_Qr (fun u : St => u = S') (fun u a t => a = ad 5 0 ∧ va_P D classes (xw ar ad u) t.heap ∧ va_D A (xw ar ad u)) A) ([Value.ref (ad 4 0), .ref (ad 3 0)].toArray) s 0 0 A) := ⟨_, rfl⟩
  rw [← eQ]
  obtain ⟨args, ea⟩ : ∃ a, a = [Value.ref (ad 4 0), .ref (ad 3 0)].toArray := ⟨_, rfl⟩
  rw [← ea] at F eQ ⊢
  obtain ⟨X_0, eX_0⟩ : ∃ X : St → Prop, X = (fun q => ∀ (H : Heap) (locs : List Loc) (pc : Nat) (ls : Array Slot), decode b_Chart_exchange pc = .ok (.areturn, 1) → Bw xw D ar A s.heap H locs ad q → W p l e (RM 1 21) s m args below meth c H locs 0 0 Q (F0 m pc ls [.ref (ad 5 0)])) := ⟨_, rfl⟩
  have key : ∀ (H : Heap) (locs : List Loc), Bw cw D ar A s.heap H locs ad S → ∀ o, f_Chart_exchange S = some o → X_0 o → W p l e (RM 1 21) s m args below meth c H locs 0 0 Q (F0 m 0 ls []) := by
    intro H locs hw o h ho
    unfold f_Chart_exchange at h
    refine lv_aload_n F.1 F.2.1 d_Chart_exchange_0 rfl (lv_at hl 0 rfl) ?_
    refine cg_4_8 F hK hw lk_199 d_Chart_exchange_1 ?_
    refine lv_astore_n (lv' := [(2, .ref (ad 5 0)), (0, .ref (ad 4 0)), (1, .ref (ad 3 0))]) F.1 F.2.1 d_Chart_exchange_4 rfl hl (by decide) rfl (fun ls hl => ?_)
    refine lv_aload_n F.1 F.2.1 d_Chart_exchange_5 rfl (lv_at hl 1 rfl) ?_
    refine lv_aload_n F.1 F.2.1 d_Chart_exchange_6 rfl (lv_at hl 2 rfl) ?_
    refine cp_4_8x F hK hw lk_199 d_Chart_exchange_7 (fun H locs hw => ?_)
    refine lv_aload_n F.1 F.2.1 d_Chart_exchange_10 rfl (lv_at hl 1 rfl) ?_
    refine lv_iconst (v := 1) F.1 F.2.1 d_Chart_exchange_11 (by decide) ?_
    refine lv_aload_n F.1 F.2.1 d_Chart_exchange_12 rfl (lv_at hl 1 rfl) ?_
    refine xg_4_8 F hK hw lk_199 d_Chart_exchange_13 ?_
    refine lv_iconst (v := 0) F.1 F.2.1 d_Chart_exchange_16 (by decide) ?_
    obtain ⟨v_2, hc_1, h⟩ := bd_ex h
    refine cV_i F hA rfl hK hw (cx_Book_toldOf_3 l hc_1) trivial rfl (good_V lk_556 lk_452 lk_453 lk_4 lk_454) (xr_3 hK hw) hd_Book_toldOf ⟨Nat.le_of_ble_eq_true rfl, Nat.le_of_ble_eq_true rfl⟩ rfl hl.1 rfl (Nat.le_of_ble_eq_true rfl) d_Chart_exchange_17 ⟨(Nat.zero_le _), (Nat.zero_le _)⟩ (fun H locs hw => ?_)
    refine lv_ishl F.1 F.2.1 d_Chart_exchange_20 ?_
    refine lv_iconst (v := 1) F.1 F.2.1 d_Chart_exchange_21 (by decide) ?_
    refine lv_isub F.1 F.2.1 d_Chart_exchange_22 ?_
    obtain ⟨S_3, eS_3, h⟩ := nm_ex h
    refine xp_4_12 F hK hw lk_211 d_Chart_exchange_23 eS_3 (fun H locs hw => ?_)
    refine lv_aload_n F.1 F.2.1 d_Chart_exchange_26 rfl (lv_at hl 1 rfl) ?_
    refine lv_iconst (v := 0) F.1 F.2.1 d_Chart_exchange_27 (by decide) ?_
    obtain ⟨S_4, eS_4, h⟩ := nm_ex h
    refine xp_4_13 F hK hw isB0 lk_212 d_Chart_exchange_28 eS_4 (fun H locs hw => ?_)
    refine lv_aload_n F.1 F.2.1 d_Chart_exchange_31 rfl (lv_at hl 1 rfl) ?_
    refine lv_iconst (v := 0) F.1 F.2.1 d_Chart_exchange_32 (by decide) ?_
    obtain ⟨S_5, eS_5, h⟩ := nm_ex h
    refine xp_4_14 F hK hw isB0 lk_213 d_Chart_exchange_33 eS_5 (fun H locs hw => ?_)
    refine lv_aload_n F.1 F.2.1 d_Chart_exchange_36 rfl (lv_at hl 1 rfl) ?_
    refine lv_iconst (v := 0) F.1 F.2.1 d_Chart_exchange_37 (by decide) ?_
    obtain ⟨S_6, eS_6, h⟩ := nm_ex h
    refine xp_4_15 F hK hw isB0 lk_214 d_Chart_exchange_38 eS_6 (fun H locs hw => ?_)
    refine lv_aload_n F.1 F.2.1 d_Chart_exchange_41 rfl (lv_at hl 1 rfl) ?_
    refine lv_iconst (v := 0) F.1 F.2.1 d_Chart_exchange_42 (by decide) ?_
    obtain ⟨S_7, eS_7, h⟩ := nm_ex h
    refine xp_4_16 F hK hw isB0 lk_215 d_Chart_exchange_43 eS_7 (fun H locs hw => ?_)
    refine lv_aload_n F.1 F.2.1 d_Chart_exchange_46 rfl (lv_at hl 1 rfl) ?_
    refine lv_iconst (v := 0) F.1 F.2.1 d_Chart_exchange_47 (by decide) ?_
    obtain ⟨S_8, eS_8, h⟩ := nm_ex h
    refine xp_4_17 F hK hw isB0 lk_216 d_Chart_exchange_48 eS_8 (fun H locs hw => ?_)
    refine lv_aload_n F.1 F.2.1 d_Chart_exchange_51 rfl (lv_at hl 0 rfl) ?_
    cases h
    have ho : X_0 _ := ho
    rw [eX_0] at ho
    exact ho H locs _ ls d_Chart_exchange_52 hw
  refine key _ _ hw _ h ?_
  rw [eX_0]
  intro H locs pc ls hdg hw
  rw [eQ]
  exact W.aret (v := .ref (ad 5 0)) B.exec B.bytes B.returns (Or.inl ⟨_, rfl⟩) (Or.inr ⟨_, rfl⟩) (fun t ht hW => ⟨⟨S', ad 5 0, rfl, rfl, rfl, by rw [ht]; exact hw.1, hw.2.1⟩, hw.2.2.F ht⟩) hw.2.2.2.2 hdg
noncomputable def f_Lots_read (S : St) : Option (Int32 × St) :=
  bd2 (f_Reader_understand S (gI S 0 6)) fun v_2 S_3 =>
  nm (pI S_3 0 6 (0 : Int32)) fun S_4 =>
  nm (pI S_4 0 7 (gI S_4 1 3)) fun S_5 =>
  if v_2 = 0 then (
    bd (f_Chart_exchange S_5) fun S_8 =>
    nm (swX S_8) fun S_9 =>
    nm (pI S_9 7 1 (0 : Int32)) fun S_10 =>
    bd (f_Lots_forgetLawful S_10) fun S_12 =>
    some (v_2, S_12))
  else (
    some (v_2, S_5))
theorem d_Lots_read_0 : decode b_Lots_read 0 = .ok (.aload_n 0, 1) := by decide +kernel
theorem d_Lots_read_1 : decode b_Lots_read 1 = .ok (.getfield 16, 3) := by decide +kernel
theorem d_Lots_read_4 : decode b_Lots_read 4 = .ok (.aload_n 0, 1) := by decide +kernel
theorem d_Lots_read_5 : decode b_Lots_read 5 = .ok (.getfield 9, 3) := by decide +kernel
theorem d_Lots_read_8 : decode b_Lots_read 8 = .ok (.aload_n 0, 1) := by decide +kernel
theorem d_Lots_read_9 : decode b_Lots_read 9 = .ok (.getfield 48, 3) := by decide +kernel
theorem d_Lots_read_12 : decode b_Lots_read 12 = .ok (.invokevirtual 59, 3) := by decide +kernel
theorem d_Lots_read_15 : decode b_Lots_read 15 = .ok (.istore_n 1, 1) := by decide +kernel
theorem d_Lots_read_16 : decode b_Lots_read 16 = .ok (.aload_n 0, 1) := by decide +kernel
theorem d_Lots_read_17 : decode b_Lots_read 17 = .ok (.iconst 0, 1) := by decide +kernel
theorem d_Lots_read_18 : decode b_Lots_read 18 = .ok (.putfield 48, 3) := by decide +kernel
theorem d_Lots_read_21 : decode b_Lots_read 21 = .ok (.aload_n 0, 1) := by decide +kernel
theorem d_Lots_read_22 : decode b_Lots_read 22 = .ok (.aload_n 0, 1) := by decide +kernel
theorem d_Lots_read_23 : decode b_Lots_read 23 = .ok (.getfield 16, 3) := by decide +kernel
theorem d_Lots_read_26 : decode b_Lots_read 26 = .ok (.getfield 63, 3) := by decide +kernel
theorem d_Lots_read_29 : decode b_Lots_read 29 = .ok (.putfield 52, 3) := by decide +kernel
theorem d_Lots_read_32 : decode b_Lots_read 32 = .ok (.iload_n 1, 1) := by decide +kernel
theorem d_Lots_read_33 : decode b_Lots_read 33 = .ok (.ifCond .ne 36, 3) := by decide +kernel
theorem d_Lots_read_36 : decode b_Lots_read 36 = .ok (.aload_n 0, 1) := by decide +kernel
theorem d_Lots_read_37 : decode b_Lots_read 37 = .ok (.getfield 16, 3) := by decide +kernel
theorem d_Lots_read_40 : decode b_Lots_read 40 = .ok (.aload_n 0, 1) := by decide +kernel
theorem d_Lots_read_41 : decode b_Lots_read 41 = .ok (.getfield 23, 3) := by decide +kernel
theorem d_Lots_read_44 : decode b_Lots_read 44 = .ok (.aload_n 0, 1) := by decide +kernel
theorem d_Lots_read_45 : decode b_Lots_read 45 = .ok (.getfield 16, 3) := by decide +kernel
theorem d_Lots_read_48 : decode b_Lots_read 48 = .ok (.getfield 64, 3) := by decide +kernel
theorem d_Lots_read_51 : decode b_Lots_read 51 = .ok (.invokevirtual 68, 3) := by decide +kernel
theorem d_Lots_read_54 : decode b_Lots_read 54 = .ok (.putfield 64, 3) := by decide +kernel
theorem d_Lots_read_57 : decode b_Lots_read 57 = .ok (.aload_n 0, 1) := by decide +kernel
theorem d_Lots_read_58 : decode b_Lots_read 58 = .ok (.getfield 30, 3) := by decide +kernel
theorem d_Lots_read_61 : decode b_Lots_read 61 = .ok (.iconst 0, 1) := by decide +kernel
theorem d_Lots_read_62 : decode b_Lots_read 62 = .ok (.putfield 72, 3) := by decide +kernel
theorem d_Lots_read_65 : decode b_Lots_read 65 = .ok (.aload_n 0, 1) := by decide +kernel
theorem d_Lots_read_66 : decode b_Lots_read 66 = .ok (.invokevirtual 75, 3) := by decide +kernel
theorem d_Lots_read_69 : decode b_Lots_read 69 = .ok (.iload_n 1, 1) := by decide +kernel
theorem d_Lots_read_70 : decode b_Lots_read 70 = .ok (.ireturn, 1) := by decide +kernel
set_option maxHeartbeats 4000000 in
set_option maxRecDepth 100000 in
theorem c_Lots_read (l : Launch) {S : St} {S' : St} {r : Int32} (h : f_Lots_read S = some (r, S')) : MI cw l y_Lots_read b_Lots_read 2 (some .int) 6 133 0 0 (fun ad => [.ref (ad 0 0)]) aT aR S r S' := by
  refine MI_of "LawfulLots" rfl (by decide) (fun _ => Nat.le_of_ble_eq_true rfl) ?_
  intro p e s m args below meth c D ar ad A Q ls hP F hK hA hw hl hQ
  have hl : lv_has ls 2 [(0, .ref (ad 0 0))] := hl
  obtain ⟨X_0, eX_0⟩ : ∃ X : (Int32 × St) → Prop, X = (fun q => ∀ (ad' : Nat → Nat → Nat) (H : Heap) (locs : List Loc) (pc : Nat) (ls : Array Slot), aR ad ad' → decode b_Lots_read pc = .ok (.ireturn, 1) → Bw cw D ar A s.heap H locs ad' q.2 → W p l e (RM 6 133) s m args below meth c H locs 0 0 Q (F0 m pc ls [.int q.1])) := ⟨_, rfl⟩
  have key : ∀ (H : Heap) (locs : List Loc), Bw cw D ar A s.heap H locs ad S → ∀ o, f_Lots_read S = some o → X_0 o → W p l e (RM 6 133) s m args below meth c H locs 0 0 Q (F0 m 0 ls []) := by
    intro H locs hw o h ho
    unfold f_Lots_read at h
    refine lv_aload_n F.1 F.2.1 d_Lots_read_0 rfl (lv_at hl 0 rfl) ?_
    refine cg_0_1 F hK hw lk_341 d_Lots_read_1 ?_
    refine lv_aload_n F.1 F.2.1 d_Lots_read_4 rfl (lv_at hl 0 rfl) ?_
    refine cg_0_0 F hK hw lk_340 d_Lots_read_5 ?_
    refine lv_aload_n F.1 F.2.1 d_Lots_read_8 rfl (lv_at hl 0 rfl) ?_
    refine cg_0_6 F hK hw lk_346 d_Lots_read_9 ?_
    obtain ⟨v_2, S_3, hc_1, h⟩ := bd2_ex h
    refine cVg_i F hA rfl hK hw (c_Reader_understand l hc_1) trivial rfl (good_V lk_381 lk_382 lk_383 lk_2 lk_384) (cr_1 hK hw) hd_Reader_understand ⟨Nat.le_of_ble_eq_true rfl, Nat.le_of_ble_eq_true rfl⟩ rfl hl.1 rfl (Nat.le_of_ble_eq_true rfl) d_Lots_read_12 ⟨(Nat.zero_le _), (Nat.zero_le _)⟩ (fun H locs hw => ?_)
    refine lv_istore_n (lv' := [(1, .int v_2), (0, .ref ((adT ad) 0 0))]) F.1 F.2.1 d_Lots_read_15 rfl hl (by decide) rfl (fun ls hl => ?_)
    refine lv_aload_n F.1 F.2.1 d_Lots_read_16 rfl (lv_at hl 1 rfl) ?_
    refine lv_iconst (v := 0) F.1 F.2.1 d_Lots_read_17 (by decide) ?_
    obtain ⟨S_4, eS_4, h⟩ := nm_ex h
    refine cp_0_6 (ad := (adT ad)) F hK hw lk_346 d_Lots_read_18 eS_4 (fun H locs hw => ?_)
    refine lv_aload_n F.1 F.2.1 d_Lots_read_21 rfl (lv_at hl 1 rfl) ?_
    refine lv_aload_n F.1 F.2.1 d_Lots_read_22 rfl (lv_at hl 1 rfl) ?_
    refine cg_0_1 (ad := (adT ad)) F hK hw lk_341 d_Lots_read_23 ?_
    refine cg_1_3 (ad := (adT ad)) F hK hw lk_124 d_Lots_read_26 ?_
    obtain ⟨S_5, eS_5, h⟩ := nm_ex h
    refine cp_0_7 (ad := (adT ad)) F hK hw lk_347 d_Lots_read_29 eS_5 (fun H locs hw => ?_)
    refine lv_iload_n F.1 F.2.1 d_Lots_read_32 rfl (lv_at hl 0 rfl) ?_
    refine lv_if_ne (tgt := 69) F.1 F.2.1 d_Lots_read_33 (by decide) (fun c_6 => ?_) (fun c_6 => ?_)
    · replace h := iq c_6 h
      refine lv_iload_n F.1 F.2.1 d_Lots_read_69 rfl (lv_at hl 0 rfl) ?_
      cases h
      have ho : X_0 _ := ho
      rw [eX_0] at ho
      exact ho _ H locs _ ls (Or.inl rfl) d_Lots_read_70 hw
    · replace h := ip c_6 h
      refine lv_aload_n F.1 F.2.1 d_Lots_read_36 rfl (lv_at hl 1 rfl) ?_
      refine cg_0_1 (ad := (adT ad)) F hK hw lk_341 d_Lots_read_37 ?_
      refine lv_aload_n F.1 F.2.1 d_Lots_read_40 rfl (lv_at hl 1 rfl) ?_
      refine cg_0_2 (ad := (adT ad)) F hK hw lk_342 d_Lots_read_41 ?_
      refine lv_aload_n F.1 F.2.1 d_Lots_read_44 rfl (lv_at hl 1 rfl) ?_
      refine cg_0_1 (ad := (adT ad)) F hK hw lk_341 d_Lots_read_45 ?_
      refine cg_1_2 (ad := (adT ad)) F hK hw lk_122 d_Lots_read_48 ?_
      obtain ⟨S_8, hc_7, h⟩ := bd_ex h
      refine cVx (ad := (adT ad)) F hA rfl hK hw (c_Chart_exchange l hc_7) rfl (good_V lk_552 lk_553 lk_554 lk_5 lk_555) (cr_4 hK hw) hd_Chart_exchange ⟨Nat.le_of_ble_eq_true rfl, Nat.le_of_ble_eq_true rfl⟩ rfl hl.1 rfl (Nat.le_of_ble_eq_true rfl) d_Lots_read_51 ⟨(Nat.zero_le _), (Nat.zero_le _)⟩ (fun H locs hw => ?_)
      obtain ⟨S_9, eS_9, h⟩ := nm_ex h
      refine xp_1_2c (ad := (adT ad)) F hK hw lk_122 d_Lots_read_54 eS_9 (fun H locs hw => ?_)
      refine lv_aload_n F.1 F.2.1 d_Lots_read_57 rfl (lv_at hl 1 rfl) ?_
      refine cg_0_3 (ad := (adX (adT ad))) F hK hw lk_343 d_Lots_read_58 ?_
      refine lv_iconst (v := 0) F.1 F.2.1 d_Lots_read_61 (by decide) ?_
      obtain ⟨S_10, eS_10, h⟩ := nm_ex h
      refine cp_7_1 (ad := (adX (adT ad))) F hK hw lk_262 d_Lots_read_62 eS_10 (fun H locs hw => ?_)
      refine lv_aload_n F.1 F.2.1 d_Lots_read_65 rfl (lv_at hl 1 rfl) ?_
      obtain ⟨S_12, hc_11, h⟩ := bd_ex h
      refine cV_v (ad := (adX (adT ad))) F hA rfl hK hw (c_Lots_forgetLawful l hc_11) trivial rfl (good_V lk_557 lk_559 ls_23 lk_1 lk_560) (cr_0 hK hw) hd_Lots_forgetLawful ⟨Nat.le_of_ble_eq_true rfl, Nat.le_of_ble_eq_true rfl⟩ rfl hl.1 rfl (Nat.le_of_ble_eq_true rfl) d_Lots_read_66 ⟨(Nat.zero_le _), (Nat.zero_le _)⟩ (fun H locs hw => ?_)
      refine lv_iload_n F.1 F.2.1 d_Lots_read_69 rfl (lv_at hl 0 rfl) ?_
      cases h
      have ho : X_0 _ := ho
      rw [eX_0] at ho
      exact ho _ H locs _ ls (Or.inr rfl) d_Lots_read_70 hw
  exact key _ _ hw _ h (by rw [eX_0]; exact fun ad' H locs pc ls hT hd hw => hQ H locs pc ls ad' hT hd hw)
